/-! methods as functions: LinkHouseModel -/
def f_M_thrown (F : Nat) (a0 : Nat) (ph : px_H) : Option (Int32 × px_H) :=
  (xgI ph 12 0 a0).bind fun t1 =>
  some (t1, ph)
theorem r_M_thrown {l : Launch} {g : px_G} {d F : Nat} {a0 : Nat} {ph : px_H} {r : Int32} {ph' : px_H} (h : f_M_thrown F a0 ph = some (r, ph')) : PW l g (d + 0) m_M_thrown 0 [.ref a0] [] ph (px_qI r ph') := by
  unfold f_M_thrown at h
  refine px_ld rfl rfl rfl rfl rfl ?_
  obtain ⟨t1, h0, h⟩ := xs_some h
  obtain ⟨fs, e1, e2⟩ := xgI_some h0
  refine px_get rfl e1 e2 rfl ?_
  cases h
  exact px_iret rfl (Or.inl rfl) rfl ⟨rfl, rfl⟩
def f_M_throwing_33 (F : Nat) (s0 : Int32) (ph : px_H) : Option (Int32 × px_H) :=
  xz s0 ph
theorem r_M_throwing_33 {l : Launch} {g : px_G} {d F : Nat} {s0 : Int32} {ph : px_H} {r : Int32} {ph' : px_H} (h : f_M_throwing_33 F s0 ph = some (r, ph')) : PW l g (d + 0) m_M_throwing 33 [px_u, px_u, px_u] [.int s0] ph (px_qI r ph') := by
  unfold f_M_throwing_33 at h
  obtain ⟨e0, e1, e2⟩ := xz_some h
  subst e1 e2
  exact px_iret rfl (Or.inr ⟨rfl, e0⟩) rfl ⟨rfl, rfl⟩
def f_M_throwing_18 (F : Nat) (a0 : Nat) (s0 : Nat) (s1 : Int32) (ph : px_H) : Option (Int32 × px_H) :=
  (xpI ph 12 0 s0 s1).bind fun ph1 =>
  (xgI ph1 12 0 a0).bind fun t2 =>
  if t2 ≤ 0 then
    f_M_throwing_33 F (nI 0) ph1
  else
    f_M_throwing_33 F (nI 1) ph1
theorem r_M_throwing_18 {l : Launch} {g : px_G} {d F : Nat} {a0 : Nat} {s0 : Nat} {s1 : Int32} {ph : px_H} {r : Int32} {ph' : px_H} (h : f_M_throwing_18 F a0 s0 s1 ph = some (r, ph')) : PW l g (d + 0) m_M_throwing 18 [.ref a0, px_u, px_u] [.int s1, .ref s0] ph (px_qI r ph') := by
  unfold f_M_throwing_18 at h
  obtain ⟨ph1, h0, h⟩ := xs_some h
  obtain ⟨fs, e1, e2, e3⟩ := xpI_some h0
  subst e3
  refine px_put rfl e1 e2 trivial rfl ?_
  refine px_ld rfl rfl rfl rfl rfl ?_
  obtain ⟨t2, h0, h⟩ := xs_some h
  obtain ⟨fs, e1, e2⟩ := xgI_some h0
  refine px_get rfl e1 e2 rfl ?_
  refine px_ifle rfl rfl rfl (fun hc => ?_) (fun hc => ?_)
  · replace h := (if_pos hc).symm.trans h
    refine px_ic (k := 0) rfl rfl rfl ?_
    refine px_forget (n := 0) (lv' := [_, _, _]) rfl ?_
    exact (r_M_throwing_33 h :)
  · replace h := (if_neg hc).symm.trans h
    refine px_ic (k := 1) rfl rfl rfl ?_
    refine px_goto rfl rfl rfl ?_
    refine px_forget (n := 0) (lv' := [_, _, _]) rfl ?_
    exact (r_M_throwing_33 h :)
def f_M_throwing (F : Nat) (a0 : Nat) (a1 : Int32) (a2 : Int32) (ph : px_H) : Option (Int32 × px_H) :=
  if a1 = 0 then
    if a2 = 0 then
      f_M_throwing_18 F a0 a0 (nI 0) ph
    else
      f_M_throwing_18 F a0 a0 (nI 2) ph
  else
    f_M_throwing_18 F a0 a0 (nI 1) ph
theorem r_M_throwing {l : Launch} {g : px_G} {d F : Nat} {a0 : Nat} {a1 : Int32} {a2 : Int32} {ph : px_H} {r : Int32} {ph' : px_H} (h : f_M_throwing F a0 a1 a2 ph = some (r, ph')) : PW l g (d + 0) m_M_throwing 0 [.ref a0, .int a1, .int a2] [] ph (px_qI r ph') := by
  unfold f_M_throwing at h
  refine px_ld rfl rfl rfl rfl rfl ?_
  refine px_ld rfl rfl rfl rfl rfl ?_
  refine px_ifeq rfl rfl rfl (fun hc => ?_) (fun hc => ?_)
  · replace h := (if_pos hc).symm.trans h
    refine px_ld rfl rfl rfl rfl rfl ?_
    refine px_ifeq rfl rfl rfl (fun hc => ?_) (fun hc => ?_)
    · replace h := (if_pos hc).symm.trans h
      refine px_ic (k := 0) rfl rfl rfl ?_
      refine px_forget (n := 1) (lv' := [_, _, _]) rfl ?_
      refine px_forget (n := 2) (lv' := [_, _, _]) rfl ?_
      exact (r_M_throwing_18 h :)
    · replace h := (if_neg hc).symm.trans h
      refine px_ic (k := 2) rfl rfl rfl ?_
      refine px_goto rfl rfl rfl ?_
      refine px_forget (n := 1) (lv' := [_, _, _]) rfl ?_
      refine px_forget (n := 2) (lv' := [_, _, _]) rfl ?_
      exact (r_M_throwing_18 h :)
  · replace h := (if_neg hc).symm.trans h
    refine px_ic (k := 1) rfl rfl rfl ?_
    refine px_goto rfl rfl rfl ?_
    refine px_forget (n := 1) (lv' := [_, _, _]) rfl ?_
    refine px_forget (n := 2) (lv' := [_, _, _]) rfl ?_
    exact (r_M_throwing_18 h :)
def f_M_feed_94 (F : Nat) (a0 : Nat) (ph : px_H) : Option (Int32 × px_H) :=
  (xgI ph 12 2 a0).bind fun t1 =>
  some (t1, ph)
theorem r_M_feed_94 {l : Launch} {g : px_G} {d F : Nat} {a0 : Nat} {ph : px_H} {r : Int32} {ph' : px_H} (h : f_M_feed_94 F a0 ph = some (r, ph')) : PW l g (d + 1) m_M_feed 94 [.ref a0, px_u, px_u, px_u, px_u, px_u] [] ph (px_qI r ph') := by
  unfold f_M_feed_94 at h
  refine px_ld rfl rfl rfl rfl rfl ?_
  obtain ⟨t1, h0, h⟩ := xs_some h
  obtain ⟨fs, e1, e2⟩ := xgI_some h0
  refine px_get rfl e1 e2 rfl ?_
  cases h
  exact px_iret rfl (Or.inl rfl) rfl ⟨rfl, rfl⟩
def f_M_feed_54 (F : Nat) : Nat → Nat → Int32 → Int64 → Int32 → px_H → Option (Int32 × px_H)
  | 0, _, _, _, _, _ => none
  | n + 1, a0, a1, a2, a5, ph =>
    if a1 ≤ a5 then
      f_M_feed_94 F a0 ph
    else
      (xgR ph 12 1 a0).bind fun t1 =>
      (xgI ph 12 2 a0).bind fun t2 =>
      (xsI ph 0 t1 t2 ((((a2 >>> (((nI 8) * a5).toInt64 &&& 63)).toInt32).toInt8.toInt32).toInt8.toInt32)).bind fun ph3 =>
      (xgI ph3 12 2 a0).bind fun t4 =>
      (xpI ph3 12 2 a0 (t4 + (nI 1))).bind fun ph5 =>
      f_M_feed_54 F n a0 a1 a2 (a5 + nI 1) ph5
theorem r_M_feed_54 {l : Launch} {g : px_G} {d F : Nat} : ∀ (n : Nat) {a0 : Nat} {a1 : Int32} {a2 : Int64} {a5 : Int32} {ph : px_H} {r : Int32} {ph' : px_H}, f_M_feed_54 F n a0 a1 a2 a5 ph = some (r, ph') → PW l g (d + 1) m_M_feed 54 [.ref a0, .int a1, .long a2, px_u, px_u, .int a5] [] ph (px_qI r ph') := by
  intro n
  induction n with
  | zero => intro _ _ _ _ _ _ _ h; cases h
  | succ n ih =>
    intro a0 a1 a2 a5 ph r ph' h
    unfold f_M_feed_54 at h
    refine px_ld rfl rfl rfl rfl rfl ?_
    refine px_ld rfl rfl rfl rfl rfl ?_
    refine px_icge rfl rfl rfl (fun hc => ?_) (fun hc => ?_)
    · replace h := (if_pos hc).symm.trans h
      refine px_forget (n := 1) (lv' := [_, _, _, _, _, _]) rfl ?_
      refine px_forget (n := 2) (lv' := [_, _, _, _, _, _]) rfl ?_
      refine px_forget (n := 5) (lv' := [_, _, _, _, _, _]) rfl ?_
      exact (r_M_feed_94 h :)
    · replace h := (if_neg hc).symm.trans h
      refine px_ld rfl rfl rfl rfl rfl ?_
      obtain ⟨t1, h0, h⟩ := xs_some h
      obtain ⟨fs, e1, e2⟩ := xgR_some h0
      refine px_get rfl e1 e2 rfl ?_
      refine px_ld rfl rfl rfl rfl rfl ?_
      obtain ⟨t2, h0, h⟩ := xs_some h
      obtain ⟨fs, e1, e2⟩ := xgI_some h0
      refine px_get rfl e1 e2 rfl ?_
      refine px_ld rfl rfl rfl rfl rfl ?_
      refine px_ic (k := 8) rfl rfl rfl ?_
      refine px_ld rfl rfl rfl rfl rfl ?_
      refine px_alu rfl rfl rfl ?_
      refine px_alu rfl rfl rfl ?_
      refine px_alu rfl rfl rfl ?_
      refine px_alu rfl rfl rfl ?_
      obtain ⟨ph3, h0, h⟩ := xs_some h
      obtain ⟨N, f, e1, e2, e3⟩ := xsI_some h0
      subst e3
      refine px_bast rfl e1 rfl e2 rfl ?_
      refine px_ld rfl rfl rfl rfl rfl ?_
      refine px_alu rfl rfl rfl ?_
      obtain ⟨t4, h0, h⟩ := xs_some h
      obtain ⟨fs, e1, e2⟩ := xgI_some h0
      refine px_get rfl e1 e2 rfl ?_
      refine px_ic (k := 1) rfl rfl rfl ?_
      refine px_alu rfl rfl rfl ?_
      obtain ⟨ph5, h0, h⟩ := xs_some h
      obtain ⟨fs, e1, e2, e3⟩ := xpI_some h0
      subst e3
      refine px_put rfl e1 e2 trivial rfl ?_
      refine px_iinc (lv' := [_, _, _, _, _, _]) rfl rfl rfl rfl rfl rfl ?_
      refine px_goto rfl rfl rfl ?_
      exact (ih h :)
def f_M_feed_43 (F : Nat) (a0 : Nat) (a1 : Int32) (a2 : Int64) (s0 : Nat) (s1 : Int32) (s2 : Int32) (ph : px_H) : Option (Int32 × px_H) :=
  (xo ph 12 s0).bind fun _ =>
  xb (f_M_throwing F s0 s1 s2 ph) fun t1 ph2 =>
  if t1 = 0 then
    f_M_feed_54 F F a0 a1 a2 (nI 0) ph2
  else
    some (nI 0, ph2)
theorem r_M_feed_43 {l : Launch} {g : px_G} {d F : Nat} {a0 : Nat} {a1 : Int32} {a2 : Int64} {s0 : Nat} {s1 : Int32} {s2 : Int32} {ph : px_H} {r : Int32} {ph' : px_H} (h : f_M_feed_43 F a0 a1 a2 s0 s1 s2 ph = some (r, ph')) : PW l g (d + 1) m_M_feed 43 [.ref a0, .int a1, .long a2, px_u, px_u, px_u] [.int s2, .int s1, .ref s0] ph (px_qI r ph') := by
  unfold f_M_feed_43 at h
  obtain ⟨fs, h0, h⟩ := xs_some h
  have e1 := xo_some h0
  obtain ⟨t1, ph2, h0, h⟩ := xb_some h
  refine px_cV2 rfl rfl e1 rfl rfl rfl rfl rfl rfl rfl (r_M_throwing h0 :) (fun _ _ q => nomatch q.2) (fun r ph' q => ?_)
  obtain ⟨rfl, q⟩ := q
  cases q
  refine px_ifeq rfl rfl rfl (fun hc => ?_) (fun hc => ?_)
  · replace h := (if_pos hc).symm.trans h
    refine px_ic (k := 0) rfl rfl rfl ?_
    refine px_st (lv' := [_, _, _, _, _, _]) rfl rfl rfl rfl rfl rfl rfl ?_
    exact (r_M_feed_54 _ h :)
  · replace h := (if_neg hc).symm.trans h
    refine px_ic (k := 0) rfl rfl rfl ?_
    cases h
    exact px_iret rfl (Or.inl rfl) rfl ⟨rfl, rfl⟩
def f_M_feed_42 (F : Nat) (a0 : Nat) (a1 : Int32) (a2 : Int64) (s0 : Nat) (s1 : Int32) (ph : px_H) : Option (Int32 × px_H) :=
  f_M_feed_43 F a0 a1 a2 s0 s1 (nI 0) ph
theorem r_M_feed_42 {l : Launch} {g : px_G} {d F : Nat} {a0 : Nat} {a1 : Int32} {a2 : Int64} {s0 : Nat} {s1 : Int32} {ph : px_H} {r : Int32} {ph' : px_H} (h : f_M_feed_42 F a0 a1 a2 s0 s1 ph = some (r, ph')) : PW l g (d + 1) m_M_feed 42 [.ref a0, .int a1, .long a2, px_u, px_u, px_u] [.int s1, .ref s0] ph (px_qI r ph') := by
  unfold f_M_feed_42 at h
  refine px_ic (k := 0) rfl rfl rfl ?_
  exact (r_M_feed_43 h :)
def f_M_feed_16 (F : Nat) (a0 : Nat) (a1 : Int32) (a2 : Int64) (s0 : Int32) (ph : px_H) : Option (Int32 × px_H) :=
  if s0 = 0 then
    (xgI ph 12 2 a0).bind fun t1 =>
    if (t1 + a1) ≤ (nI 8192) then
      f_M_feed_42 F a0 a1 a2 a0 s0 ph
    else
      f_M_feed_43 F a0 a1 a2 a0 s0 (nI 1) ph
  else
    f_M_feed_42 F a0 a1 a2 a0 s0 ph
theorem r_M_feed_16 {l : Launch} {g : px_G} {d F : Nat} {a0 : Nat} {a1 : Int32} {a2 : Int64} {s0 : Int32} {ph : px_H} {r : Int32} {ph' : px_H} (h : f_M_feed_16 F a0 a1 a2 s0 ph = some (r, ph')) : PW l g (d + 1) m_M_feed 16 [.ref a0, .int a1, .long a2, px_u, px_u, px_u] [.int s0] ph (px_qI r ph') := by
  unfold f_M_feed_16 at h
  refine px_st (lv' := [_, _, _, _, _, _]) rfl rfl rfl rfl rfl rfl rfl ?_
  refine px_ld rfl rfl rfl rfl rfl ?_
  refine px_ld rfl rfl rfl rfl rfl ?_
  refine px_ld rfl rfl rfl rfl rfl ?_
  refine px_ifne rfl rfl rfl (fun hc => ?_) (fun hc => ?_)
  · replace h := (if_neg hc).symm.trans h
    refine px_forget (n := 4) (lv' := [_, _, _, _, _, _]) rfl ?_
    exact (r_M_feed_42 h :)
  · replace h := (if_pos hc).symm.trans h
    refine px_ld rfl rfl rfl rfl rfl ?_
    obtain ⟨t1, h0, h⟩ := xs_some h
    obtain ⟨fs, e1, e2⟩ := xgI_some h0
    refine px_get rfl e1 e2 rfl ?_
    refine px_ld rfl rfl rfl rfl rfl ?_
    refine px_alu rfl rfl rfl ?_
    refine px_ic (k := 8192) rfl rfl rfl ?_
    refine px_icle rfl rfl rfl (fun hc => ?_) (fun hc => ?_)
    · replace h := (if_pos hc).symm.trans h
      refine px_forget (n := 4) (lv' := [_, _, _, _, _, _]) rfl ?_
      exact (r_M_feed_42 h :)
    · replace h := (if_neg hc).symm.trans h
      refine px_ic (k := 1) rfl rfl rfl ?_
      refine px_goto rfl rfl rfl ?_
      refine px_forget (n := 4) (lv' := [_, _, _, _, _, _]) rfl ?_
      exact (r_M_feed_43 h :)
def f_M_feed_11 (F : Nat) (a0 : Nat) (a1 : Int32) (a2 : Int64) (ph : px_H) : Option (Int32 × px_H) :=
  f_M_feed_16 F a0 a1 a2 (nI 1) ph
theorem r_M_feed_11 {l : Launch} {g : px_G} {d F : Nat} {a0 : Nat} {a1 : Int32} {a2 : Int64} {ph : px_H} {r : Int32} {ph' : px_H} (h : f_M_feed_11 F a0 a1 a2 ph = some (r, ph')) : PW l g (d + 1) m_M_feed 11 [.ref a0, .int a1, .long a2, px_u, px_u, px_u] [] ph (px_qI r ph') := by
  unfold f_M_feed_11 at h
  refine px_ic (k := 1) rfl rfl rfl ?_
  refine px_goto rfl rfl rfl ?_
  exact (r_M_feed_16 h :)
def f_M_feed (F : Nat) (a0 : Nat) (a1 : Int32) (a2 : Int64) (ph : px_H) : Option (Int32 × px_H) :=
  if a1 < (nI 1) then
    f_M_feed_11 F a0 a1 a2 ph
  else
    if a1 ≤ (nI 8) then
      f_M_feed_16 F a0 a1 a2 (nI 0) ph
    else
      f_M_feed_11 F a0 a1 a2 ph
theorem r_M_feed {l : Launch} {g : px_G} {d F : Nat} {a0 : Nat} {a1 : Int32} {a2 : Int64} {ph : px_H} {r : Int32} {ph' : px_H} (h : f_M_feed F a0 a1 a2 ph = some (r, ph')) : PW l g (d + 1) m_M_feed 0 [.ref a0, .int a1, .long a2, px_u, px_u, px_u] [] ph (px_qI r ph') := by
  unfold f_M_feed at h
  refine px_ld rfl rfl rfl rfl rfl ?_
  refine px_ic (k := 1) rfl rfl rfl ?_
  refine px_iclt rfl rfl rfl (fun hc => ?_) (fun hc => ?_)
  · replace h := (if_pos hc).symm.trans h
    exact (r_M_feed_11 h :)
  · replace h := (if_neg hc).symm.trans h
    refine px_ld rfl rfl rfl rfl rfl ?_
    refine px_ic (k := 8) rfl rfl rfl ?_
    refine px_icle rfl rfl rfl (fun hc => ?_) (fun hc => ?_)
    · replace h := (if_pos hc).symm.trans h
      refine px_ic (k := 0) rfl rfl rfl ?_
      exact (r_M_feed_16 h :)
    · replace h := (if_neg hc).symm.trans h
      exact (r_M_feed_11 h :)
def f_M_num_38 (F : Nat) (a3 : Int64) (ph : px_H) : Option (Int64 × px_H) :=
  some (a3, ph)
theorem r_M_num_38 {l : Launch} {g : px_G} {d F : Nat} {a3 : Int64} {ph : px_H} {r : Int64} {ph' : px_H} (h : f_M_num_38 F a3 ph = some (r, ph')) : PW l g (d + 0) m_M_num 38 [px_u, px_u, px_u, .long a3, px_u, px_u] [] ph (px_qJ r ph') := by
  unfold f_M_num_38 at h
  refine px_ld rfl rfl rfl rfl rfl ?_
  cases h
  exact px_lret rfl rfl rfl ⟨rfl, rfl⟩
def f_M_num_7 (F : Nat) : Nat → Nat → Int32 → Int64 → Int32 → px_H → Option (Int64 × px_H)
  | 0, _, _, _, _, _ => none
  | n + 1, a0, a1, a3, a5, ph =>
    if a5 < 0 then
      f_M_num_38 F a3 ph
    else
      (xgR ph 12 6 a0).bind fun t1 =>
      (xaI ph 0 t1 (a1 + a5)).bind fun t2 =>
      f_M_num_7 F n a0 a1 ((a3 <<< ((nI 8).toInt64 &&& 63)) ||| ((t2 &&& (nI 255)).toInt64)) (a5 + Int32.ofInt (-1)) ph
theorem r_M_num_7 {l : Launch} {g : px_G} {d F : Nat} : ∀ (n : Nat) {a0 : Nat} {a1 : Int32} {a3 : Int64} {a5 : Int32} {ph : px_H} {r : Int64} {ph' : px_H}, f_M_num_7 F n a0 a1 a3 a5 ph = some (r, ph') → PW l g (d + 0) m_M_num 7 [.ref a0, .int a1, px_u, .long a3, px_u, .int a5] [] ph (px_qJ r ph') := by
  intro n
  induction n with
  | zero => intro _ _ _ _ _ _ _ h; cases h
  | succ n ih =>
    intro a0 a1 a3 a5 ph r ph' h
    unfold f_M_num_7 at h
    refine px_ld rfl rfl rfl rfl rfl ?_
    refine px_iflt rfl rfl rfl (fun hc => ?_) (fun hc => ?_)
    · replace h := (if_pos hc).symm.trans h
      refine px_forget (n := 0) (lv' := [_, _, _, _, _, _]) rfl ?_
      refine px_forget (n := 1) (lv' := [_, _, _, _, _, _]) rfl ?_
      refine px_forget (n := 5) (lv' := [_, _, _, _, _, _]) rfl ?_
      exact (r_M_num_38 h :)
    · replace h := (if_neg hc).symm.trans h
      refine px_ld rfl rfl rfl rfl rfl ?_
      refine px_ic (k := 8) rfl rfl rfl ?_
      refine px_alu rfl rfl rfl ?_
      refine px_ld rfl rfl rfl rfl rfl ?_
      obtain ⟨t1, h0, h⟩ := xs_some h
      obtain ⟨fs, e1, e2⟩ := xgR_some h0
      refine px_get rfl e1 e2 rfl ?_
      refine px_ld rfl rfl rfl rfl rfl ?_
      refine px_ld rfl rfl rfl rfl rfl ?_
      refine px_alu rfl rfl rfl ?_
      obtain ⟨t2, h0, h⟩ := xs_some h
      obtain ⟨N, f, e1, e2, e3⟩ := xaI_some h0
      subst e3
      refine px_bald rfl e1 rfl e2 rfl ?_
      refine px_ic (k := 255) rfl rfl rfl ?_
      refine px_alu rfl rfl rfl ?_
      refine px_alu rfl rfl rfl ?_
      refine px_alu rfl rfl rfl ?_
      refine px_st (lv' := [_, _, _, _, _, _]) rfl rfl rfl rfl rfl rfl rfl ?_
      refine px_iinc (lv' := [_, _, _, _, _, _]) rfl rfl rfl rfl rfl rfl ?_
      refine px_goto rfl rfl rfl ?_
      exact (ih h :)
def f_M_num (F : Nat) (a0 : Nat) (a1 : Int32) (a2 : Int32) (ph : px_H) : Option (Int64 × px_H) :=
  f_M_num_7 F F a0 a1 (lN 0) (a2 - (nI 1)) ph
theorem r_M_num {l : Launch} {g : px_G} {d F : Nat} {a0 : Nat} {a1 : Int32} {a2 : Int32} {ph : px_H} {r : Int64} {ph' : px_H} (h : f_M_num F a0 a1 a2 ph = some (r, ph')) : PW l g (d + 0) m_M_num 0 [.ref a0, .int a1, .int a2, px_u, px_u, px_u] [] ph (px_qJ r ph') := by
  unfold f_M_num at h
  refine px_alu rfl rfl rfl ?_
  refine px_st (lv' := [_, _, _, _, _, _]) rfl rfl rfl rfl rfl rfl rfl ?_
  refine px_ld rfl rfl rfl rfl rfl ?_
  refine px_ic (k := 1) rfl rfl rfl ?_
  refine px_alu rfl rfl rfl ?_
  refine px_st (lv' := [_, _, _, _, _, _]) rfl rfl rfl rfl rfl rfl rfl ?_
  refine px_forget (n := 2) (lv' := [_, _, _, _, _, _]) rfl ?_
  exact (r_M_num_7 _ h :)
def f_M_isHeader_105 (F : Nat) (s0 : Int32) (ph : px_H) : Option (Int32 × px_H) :=
  xz s0 ph
theorem r_M_isHeader_105 {l : Launch} {g : px_G} {d F : Nat} {s0 : Int32} {ph : px_H} {r : Int32} {ph' : px_H} (h : f_M_isHeader_105 F s0 ph = some (r, ph')) : PW l g (d + 1) m_M_isHeader 105 [px_u, px_u, px_u] [.int s0] ph (px_qI r ph') := by
  unfold f_M_isHeader_105 at h
  obtain ⟨e0, e1, e2⟩ := xz_some h
  subst e1 e2
  exact px_iret rfl (Or.inr ⟨rfl, e0⟩) rfl ⟨rfl, rfl⟩
def f_M_isHeader_104 (F : Nat) (ph : px_H) : Option (Int32 × px_H) :=
  f_M_isHeader_105 F (nI 0) ph
theorem r_M_isHeader_104 {l : Launch} {g : px_G} {d F : Nat} {ph : px_H} {r : Int32} {ph' : px_H} (h : f_M_isHeader_104 F ph = some (r, ph')) : PW l g (d + 1) m_M_isHeader 104 [px_u, px_u, px_u] [] ph (px_qI r ph') := by
  unfold f_M_isHeader_104 at h
  refine px_ic (k := 0) rfl rfl rfl ?_
  exact (r_M_isHeader_105 h :)
def f_M_isHeader_63 (F : Nat) (a0 : Nat) (a1 : Int32) (s0 : Int32) (ph : px_H) : Option (Int32 × px_H) :=
  if s0 = 0 then
    f_M_isHeader_104 F ph
  else
    (xo ph 12 a0).bind fun _ =>
    xb (f_M_num F a0 (a1 + (nI 52)) (nI 2) ph) fun t1 ph2 =>
    if t1 = ((64 : Int64)) then
      (xo ph2 12 a0).bind fun _ =>
      xb (f_M_num F a0 (a1 + (nI 58)) (nI 2) ph2) fun t3 ph4 =>
      if t3 = ((64 : Int64)) then
        f_M_isHeader_105 F (nI 1) ph4
      else
        f_M_isHeader_104 F ph4
    else
      f_M_isHeader_104 F ph2
theorem r_M_isHeader_63 {l : Launch} {g : px_G} {d F : Nat} {a0 : Nat} {a1 : Int32} {s0 : Int32} {ph : px_H} {r : Int32} {ph' : px_H} (h : f_M_isHeader_63 F a0 a1 s0 ph = some (r, ph')) : PW l g (d + 1) m_M_isHeader 63 [.ref a0, .int a1, px_u] [.int s0] ph (px_qI r ph') := by
  unfold f_M_isHeader_63 at h
  refine px_st (lv' := [_, _, _]) rfl rfl rfl rfl rfl rfl rfl ?_
  refine px_ld rfl rfl rfl rfl rfl ?_
  refine px_ifeq rfl (by decide) rfl (fun hc => ?_) (fun hc => ?_)
  · replace h := (if_pos hc).symm.trans h
    refine px_forget (n := 0) (lv' := [_, _, _]) rfl ?_
    refine px_forget (n := 1) (lv' := [_, _, _]) rfl ?_
    refine px_forget (n := 2) (lv' := [_, _, _]) rfl ?_
    exact (r_M_isHeader_104 h :)
  · replace h := (if_neg hc).symm.trans h
    refine px_ld rfl rfl rfl rfl rfl ?_
    refine px_ld rfl rfl rfl rfl rfl ?_
    refine px_ic (k := 52) rfl rfl rfl ?_
    refine px_alu rfl rfl rfl ?_
    refine px_ic (k := 2) rfl rfl rfl ?_
    obtain ⟨fs, h0, h⟩ := xs_some h
    have e1 := xo_some h0
    obtain ⟨t1, ph2, h0, h⟩ := xb_some h
    refine px_cV2 rfl rfl e1 rfl rfl rfl rfl rfl rfl rfl (r_M_num h0 :) (fun _ _ q => nomatch q.2) (fun r ph' q => ?_)
    obtain ⟨rfl, q⟩ := q
    cases q
    refine px_ldc2 rfl rfl rfl ?_
    refine px_alu rfl rfl rfl ?_
    refine px_ifne rfl (by decide) rfl (fun hc => ?_) (fun hc => ?_)
    · replace h := (if_neg (fun q => hc ((lg_cmp_eq _ _).mpr q))).symm.trans h
      refine px_forget (n := 0) (lv' := [_, _, _]) rfl ?_
      refine px_forget (n := 1) (lv' := [_, _, _]) rfl ?_
      refine px_forget (n := 2) (lv' := [_, _, _]) rfl ?_
      exact (r_M_isHeader_104 h :)
    · replace h := (if_pos ((lg_cmp_eq _ _).mp hc)).symm.trans h
      refine px_ld rfl rfl rfl rfl rfl ?_
      refine px_ld rfl rfl rfl rfl rfl ?_
      refine px_ic (k := 58) rfl rfl rfl ?_
      refine px_alu rfl rfl rfl ?_
      refine px_ic (k := 2) rfl rfl rfl ?_
      obtain ⟨fs, h0, h⟩ := xs_some h
      have e1 := xo_some h0
      obtain ⟨t3, ph4, h0, h⟩ := xb_some h
      refine px_cV2 rfl rfl e1 rfl rfl rfl rfl rfl rfl rfl (r_M_num h0 :) (fun _ _ q => nomatch q.2) (fun r ph' q => ?_)
      obtain ⟨rfl, q⟩ := q
      cases q
      refine px_ldc2 rfl rfl rfl ?_
      refine px_alu rfl rfl rfl ?_
      refine px_ifne rfl (by decide) rfl (fun hc => ?_) (fun hc => ?_)
      · replace h := (if_neg (fun q => hc ((lg_cmp_eq _ _).mpr q))).symm.trans h
        refine px_forget (n := 0) (lv' := [_, _, _]) rfl ?_
        refine px_forget (n := 1) (lv' := [_, _, _]) rfl ?_
        refine px_forget (n := 2) (lv' := [_, _, _]) rfl ?_
        exact (r_M_isHeader_104 h :)
      · replace h := (if_pos ((lg_cmp_eq _ _).mp hc)).symm.trans h
        refine px_ic (k := 1) rfl rfl rfl ?_
        refine px_goto rfl (by decide) rfl ?_
        refine px_forget (n := 0) (lv' := [_, _, _]) rfl ?_
        refine px_forget (n := 1) (lv' := [_, _, _]) rfl ?_
        refine px_forget (n := 2) (lv' := [_, _, _]) rfl ?_
        exact (r_M_isHeader_105 h :)
def f_M_isHeader_62 (F : Nat) (a0 : Nat) (a1 : Int32) (ph : px_H) : Option (Int32 × px_H) :=
  f_M_isHeader_63 F a0 a1 (nI 0) ph
theorem r_M_isHeader_62 {l : Launch} {g : px_G} {d F : Nat} {a0 : Nat} {a1 : Int32} {ph : px_H} {r : Int32} {ph' : px_H} (h : f_M_isHeader_62 F a0 a1 ph = some (r, ph')) : PW l g (d + 1) m_M_isHeader 62 [.ref a0, .int a1, px_u] [] ph (px_qI r ph') := by
  unfold f_M_isHeader_62 at h
  refine px_ic (k := 0) rfl rfl rfl ?_
  exact (r_M_isHeader_63 h :)
def f_M_isHeader (F : Nat) (a0 : Nat) (a1 : Int32) (ph : px_H) : Option (Int32 × px_H) :=
  (xo ph 12 a0).bind fun _ =>
  xb (f_M_num F a0 a1 (nI 7) ph) fun t1 ph2 =>
  if t1 = ((282584257676671 : Int64)) then
    (xo ph2 12 a0).bind fun _ =>
    xb (f_M_num F a0 (a1 + (nI 16)) (nI 2) ph2) fun t3 ph4 =>
    if t3 = (lN 1) then
      (xo ph4 12 a0).bind fun _ =>
      xb (f_M_num F a0 (a1 + (nI 18)) (nI 2) ph4) fun t5 ph6 =>
      if t5 = ((62 : Int64)) then
        (xo ph6 12 a0).bind fun _ =>
        xb (f_M_num F a0 (a1 + (nI 20)) (nI 4) ph6) fun t7 ph8 =>
        if t7 = (lN 1) then
          f_M_isHeader_63 F a0 a1 (nI 1) ph8
        else
          f_M_isHeader_62 F a0 a1 ph8
      else
        f_M_isHeader_62 F a0 a1 ph6
    else
      f_M_isHeader_62 F a0 a1 ph4
  else
    f_M_isHeader_62 F a0 a1 ph2
theorem r_M_isHeader {l : Launch} {g : px_G} {d F : Nat} {a0 : Nat} {a1 : Int32} {ph : px_H} {r : Int32} {ph' : px_H} (h : f_M_isHeader F a0 a1 ph = some (r, ph')) : PW l g (d + 1) m_M_isHeader 0 [.ref a0, .int a1, px_u] [] ph (px_qI r ph') := by
  unfold f_M_isHeader at h
  refine px_ld rfl rfl rfl rfl rfl ?_
  refine px_ld rfl rfl rfl rfl rfl ?_
  refine px_ic (k := 7) rfl rfl rfl ?_
  obtain ⟨fs, h0, h⟩ := xs_some h
  have e1 := xo_some h0
  obtain ⟨t1, ph2, h0, h⟩ := xb_some h
  refine px_cV2 rfl rfl e1 rfl rfl rfl rfl rfl rfl rfl (r_M_num h0 :) (fun _ _ q => nomatch q.2) (fun r ph' q => ?_)
  obtain ⟨rfl, q⟩ := q
  cases q
  refine px_ldc2 rfl rfl rfl ?_
  refine px_alu rfl rfl rfl ?_
  refine px_ifne rfl (by decide) rfl (fun hc => ?_) (fun hc => ?_)
  · replace h := (if_neg (fun q => hc ((lg_cmp_eq _ _).mpr q))).symm.trans h
    exact (r_M_isHeader_62 h :)
  · replace h := (if_pos ((lg_cmp_eq _ _).mp hc)).symm.trans h
    refine px_ld rfl rfl rfl rfl rfl ?_
    refine px_ld rfl rfl rfl rfl rfl ?_
    refine px_ic (k := 16) rfl rfl rfl ?_
    refine px_alu rfl rfl rfl ?_
    refine px_ic (k := 2) rfl rfl rfl ?_
    obtain ⟨fs, h0, h⟩ := xs_some h
    have e1 := xo_some h0
    obtain ⟨t3, ph4, h0, h⟩ := xb_some h
    refine px_cV2 rfl rfl e1 rfl rfl rfl rfl rfl rfl rfl (r_M_num h0 :) (fun _ _ q => nomatch q.2) (fun r ph' q => ?_)
    obtain ⟨rfl, q⟩ := q
    cases q
    refine px_alu rfl rfl rfl ?_
    refine px_alu rfl rfl rfl ?_
    refine px_ifne rfl (by decide) rfl (fun hc => ?_) (fun hc => ?_)
    · replace h := (if_neg (fun q => hc ((lg_cmp_eq _ _).mpr q))).symm.trans h
      exact (r_M_isHeader_62 h :)
    · replace h := (if_pos ((lg_cmp_eq _ _).mp hc)).symm.trans h
      refine px_ld rfl rfl rfl rfl rfl ?_
      refine px_ld rfl rfl rfl rfl rfl ?_
      refine px_ic (k := 18) rfl rfl rfl ?_
      refine px_alu rfl rfl rfl ?_
      refine px_ic (k := 2) rfl rfl rfl ?_
      obtain ⟨fs, h0, h⟩ := xs_some h
      have e1 := xo_some h0
      obtain ⟨t5, ph6, h0, h⟩ := xb_some h
      refine px_cV2 rfl rfl e1 rfl rfl rfl rfl rfl rfl rfl (r_M_num h0 :) (fun _ _ q => nomatch q.2) (fun r ph' q => ?_)
      obtain ⟨rfl, q⟩ := q
      cases q
      refine px_ldc2 rfl rfl rfl ?_
      refine px_alu rfl rfl rfl ?_
      refine px_ifne rfl (by decide) rfl (fun hc => ?_) (fun hc => ?_)
      · replace h := (if_neg (fun q => hc ((lg_cmp_eq _ _).mpr q))).symm.trans h
        exact (r_M_isHeader_62 h :)
      · replace h := (if_pos ((lg_cmp_eq _ _).mp hc)).symm.trans h
        refine px_ld rfl rfl rfl rfl rfl ?_
        refine px_ld rfl rfl rfl rfl rfl ?_
        refine px_ic (k := 20) rfl rfl rfl ?_
        refine px_alu rfl rfl rfl ?_
        refine px_ic (k := 4) rfl rfl rfl ?_
        obtain ⟨fs, h0, h⟩ := xs_some h
        have e1 := xo_some h0
        obtain ⟨t7, ph8, h0, h⟩ := xb_some h
        refine px_cV2 rfl rfl e1 rfl rfl rfl rfl rfl rfl rfl (r_M_num h0 :) (fun _ _ q => nomatch q.2) (fun r ph' q => ?_)
        obtain ⟨rfl, q⟩ := q
        cases q
        refine px_alu rfl rfl rfl ?_
        refine px_alu rfl rfl rfl ?_
        refine px_ifne rfl (by decide) rfl (fun hc => ?_) (fun hc => ?_)
        · replace h := (if_neg (fun q => hc ((lg_cmp_eq _ _).mpr q))).symm.trans h
          exact (r_M_isHeader_62 h :)
        · replace h := (if_pos ((lg_cmp_eq _ _).mp hc)).symm.trans h
          refine px_ic (k := 1) rfl rfl rfl ?_
          refine px_goto rfl (by decide) rfl ?_
          exact (r_M_isHeader_63 h :)
def f_M_sections (F : Nat) (a0 : Nat) (a1 : Int32) (ph : px_H) : Option (Int32 × px_H) :=
  (xo ph 12 a0).bind fun _ =>
  xb (f_M_num F a0 (a1 + (nI 60)) (nI 2) ph) fun t1 ph2 =>
  some (t1.toInt32, ph2)
theorem r_M_sections {l : Launch} {g : px_G} {d F : Nat} {a0 : Nat} {a1 : Int32} {ph : px_H} {r : Int32} {ph' : px_H} (h : f_M_sections F a0 a1 ph = some (r, ph')) : PW l g (d + 1) m_M_sections 0 [.ref a0, .int a1] [] ph (px_qI r ph') := by
  unfold f_M_sections at h
  refine px_ld rfl rfl rfl rfl rfl ?_
  refine px_ld rfl rfl rfl rfl rfl ?_
  refine px_ic (k := 60) rfl rfl rfl ?_
  refine px_alu rfl rfl rfl ?_
  refine px_ic (k := 2) rfl rfl rfl ?_
  obtain ⟨fs, h0, h⟩ := xs_some h
  have e1 := xo_some h0
  obtain ⟨t1, ph2, h0, h⟩ := xb_some h
  refine px_cV2 rfl rfl e1 rfl rfl rfl rfl rfl rfl rfl (r_M_num h0 :) (fun _ _ q => nomatch q.2) (fun r ph' q => ?_)
  obtain ⟨rfl, q⟩ := q
  cases q
  refine px_alu rfl rfl rfl ?_
  cases h
  exact px_iret rfl (Or.inl rfl) rfl ⟨rfl, rfl⟩
def f_M_lies_33 (F : Nat) (s0 : Int32) (ph : px_H) : Option (Int32 × px_H) :=
  xz s0 ph
theorem r_M_lies_33 {l : Launch} {g : px_G} {d F : Nat} {s0 : Int32} {ph : px_H} {r : Int32} {ph' : px_H} (h : f_M_lies_33 F s0 ph = some (r, ph')) : PW l g (d + 0) m_M_lies 33 [px_u, px_u, px_u, px_u, px_u, px_u] [.int s0] ph (px_qI r ph') := by
  unfold f_M_lies_33 at h
  obtain ⟨e0, e1, e2⟩ := xz_some h
  subst e1 e2
  exact px_iret rfl (Or.inr ⟨rfl, e0⟩) rfl ⟨rfl, rfl⟩
def f_M_lies_32 (F : Nat) (ph : px_H) : Option (Int32 × px_H) :=
  f_M_lies_33 F (nI 0) ph
theorem r_M_lies_32 {l : Launch} {g : px_G} {d F : Nat} {ph : px_H} {r : Int32} {ph' : px_H} (h : f_M_lies_32 F ph = some (r, ph')) : PW l g (d + 0) m_M_lies 32 [px_u, px_u, px_u, px_u, px_u, px_u] [] ph (px_qI r ph') := by
  unfold f_M_lies_32 at h
  refine px_ic (k := 0) rfl rfl rfl ?_
  exact (r_M_lies_33 h :)
def f_M_lies (F : Nat) (a0 : Int64) (a2 : Int64) (a4 : Int64) (ph : px_H) : Option (Int32 × px_H) :=
  if a2 < (lN 0) then
    f_M_lies_32 F ph
  else
    if a0 < (lN 0) then
      f_M_lies_32 F ph
    else
      if a4 < a2 then
        f_M_lies_32 F ph
      else
        if (a4 - a2) < a0 then
          f_M_lies_32 F ph
        else
          f_M_lies_33 F (nI 1) ph
theorem r_M_lies {l : Launch} {g : px_G} {d F : Nat} {a0 : Int64} {a2 : Int64} {a4 : Int64} {ph : px_H} {r : Int32} {ph' : px_H} (h : f_M_lies F a0 a2 a4 ph = some (r, ph')) : PW l g (d + 0) m_M_lies 0 [.long a0, px_u, .long a2, px_u, .long a4, px_u] [] ph (px_qI r ph') := by
  unfold f_M_lies at h
  refine px_ld rfl rfl rfl rfl rfl ?_
  refine px_alu rfl rfl rfl ?_
  refine px_alu rfl rfl rfl ?_
  refine px_iflt rfl rfl rfl (fun hc => ?_) (fun hc => ?_)
  · replace h := (if_pos ((lg_cmp_lt _ _).mp hc)).symm.trans h
    refine px_forget (n := 0) (lv' := [_, _, _, _, _, _]) rfl ?_
    refine px_forget (n := 2) (lv' := [_, _, _, _, _, _]) rfl ?_
    refine px_forget (n := 4) (lv' := [_, _, _, _, _, _]) rfl ?_
    exact (r_M_lies_32 h :)
  · replace h := (if_neg (fun q => hc ((lg_cmp_lt _ _).mpr q))).symm.trans h
    refine px_ld rfl rfl rfl rfl rfl ?_
    refine px_alu rfl rfl rfl ?_
    refine px_alu rfl rfl rfl ?_
    refine px_iflt rfl rfl rfl (fun hc => ?_) (fun hc => ?_)
    · replace h := (if_pos ((lg_cmp_lt _ _).mp hc)).symm.trans h
      refine px_forget (n := 0) (lv' := [_, _, _, _, _, _]) rfl ?_
      refine px_forget (n := 2) (lv' := [_, _, _, _, _, _]) rfl ?_
      refine px_forget (n := 4) (lv' := [_, _, _, _, _, _]) rfl ?_
      exact (r_M_lies_32 h :)
    · replace h := (if_neg (fun q => hc ((lg_cmp_lt _ _).mpr q))).symm.trans h
      refine px_ld rfl rfl rfl rfl rfl ?_
      refine px_ld rfl rfl rfl rfl rfl ?_
      refine px_alu rfl rfl rfl ?_
      refine px_ifgt rfl rfl rfl (fun hc => ?_) (fun hc => ?_)
      · replace h := (if_pos ((lg_cmp_gt _ _).mp hc)).symm.trans h
        refine px_forget (n := 0) (lv' := [_, _, _, _, _, _]) rfl ?_
        refine px_forget (n := 2) (lv' := [_, _, _, _, _, _]) rfl ?_
        refine px_forget (n := 4) (lv' := [_, _, _, _, _, _]) rfl ?_
        exact (r_M_lies_32 h :)
      · replace h := (if_neg (fun q => hc ((lg_cmp_gt _ _).mpr q))).symm.trans h
        refine px_ld rfl rfl rfl rfl rfl ?_
        refine px_ld rfl rfl rfl rfl rfl ?_
        refine px_ld rfl rfl rfl rfl rfl ?_
        refine px_alu rfl rfl rfl ?_
        refine px_alu rfl rfl rfl ?_
        refine px_ifgt rfl rfl rfl (fun hc => ?_) (fun hc => ?_)
        · replace h := (if_pos ((lg_cmp_gt _ _).mp hc)).symm.trans h
          refine px_forget (n := 0) (lv' := [_, _, _, _, _, _]) rfl ?_
          refine px_forget (n := 2) (lv' := [_, _, _, _, _, _]) rfl ?_
          refine px_forget (n := 4) (lv' := [_, _, _, _, _, _]) rfl ?_
          exact (r_M_lies_32 h :)
        · replace h := (if_neg (fun q => hc ((lg_cmp_gt _ _).mpr q))).symm.trans h
          refine px_ic (k := 1) rfl rfl rfl ?_
          refine px_goto rfl rfl rfl ?_
          refine px_forget (n := 0) (lv' := [_, _, _, _, _, _]) rfl ?_
          refine px_forget (n := 2) (lv' := [_, _, _, _, _, _]) rfl ?_
          refine px_forget (n := 4) (lv' := [_, _, _, _, _, _]) rfl ?_
          exact (r_M_lies_33 h :)
def f_M_row (F : Nat) (a0 : Nat) (a1 : Int32) (a2 : Int32) (ph : px_H) : Option (Int32 × px_H) :=
  (xo ph 12 a0).bind fun _ =>
  xb (f_M_num F a0 (a1 + (nI 40)) (nI 8) ph) fun t1 ph2 =>
  some ((a1 + t1.toInt32) + ((nI 64) * a2), ph2)
theorem r_M_row {l : Launch} {g : px_G} {d F : Nat} {a0 : Nat} {a1 : Int32} {a2 : Int32} {ph : px_H} {r : Int32} {ph' : px_H} (h : f_M_row F a0 a1 a2 ph = some (r, ph')) : PW l g (d + 1) m_M_row 0 [.ref a0, .int a1, .int a2] [] ph (px_qI r ph') := by
  unfold f_M_row at h
  refine px_ld rfl rfl rfl rfl rfl ?_
  refine px_ld rfl rfl rfl rfl rfl ?_
  refine px_ld rfl rfl rfl rfl rfl ?_
  refine px_ic (k := 40) rfl rfl rfl ?_
  refine px_alu rfl rfl rfl ?_
  refine px_ic (k := 8) rfl rfl rfl ?_
  obtain ⟨fs, h0, h⟩ := xs_some h
  have e1 := xo_some h0
  obtain ⟨t1, ph2, h0, h⟩ := xb_some h
  refine px_cV2 rfl rfl e1 rfl rfl rfl rfl rfl rfl rfl (r_M_num h0 :) (fun _ _ q => nomatch q.2) (fun r ph' q => ?_)
  obtain ⟨rfl, q⟩ := q
  cases q
  refine px_alu rfl rfl rfl ?_
  refine px_alu rfl rfl rfl ?_
  refine px_ic (k := 64) rfl rfl rfl ?_
  refine px_ld rfl rfl rfl rfl rfl ?_
  refine px_alu rfl rfl rfl ?_
  refine px_alu rfl rfl rfl ?_
  cases h
  exact px_iret rfl (Or.inl rfl) rfl ⟨rfl, rfl⟩
def f_M_type (F : Nat) (a0 : Nat) (a1 : Int32) (a2 : Int32) (ph : px_H) : Option (Int64 × px_H) :=
  (xo ph 12 a0).bind fun _ =>
  xb (f_M_row F a0 a1 a2 ph) fun t1 ph2 =>
  (xo ph2 12 a0).bind fun _ =>
  xb (f_M_num F a0 (t1 + (nI 4)) (nI 4) ph2) fun t3 ph4 =>
  some (t3, ph4)
theorem r_M_type {l : Launch} {g : px_G} {d F : Nat} {a0 : Nat} {a1 : Int32} {a2 : Int32} {ph : px_H} {r : Int64} {ph' : px_H} (h : f_M_type F a0 a1 a2 ph = some (r, ph')) : PW l g (d + 2) m_M_type 0 [.ref a0, .int a1, .int a2] [] ph (px_qJ r ph') := by
  unfold f_M_type at h
  refine px_ld rfl rfl rfl rfl rfl ?_
  refine px_ld rfl rfl rfl rfl rfl ?_
  refine px_ld rfl rfl rfl rfl rfl ?_
  refine px_ld rfl rfl rfl rfl rfl ?_
  obtain ⟨fs, h0, h⟩ := xs_some h
  have e1 := xo_some h0
  obtain ⟨t1, ph2, h0, h⟩ := xb_some h
  refine px_cV2 rfl rfl e1 rfl rfl rfl rfl rfl rfl rfl (r_M_row h0 :) (fun _ _ q => nomatch q.2) (fun r ph' q => ?_)
  obtain ⟨rfl, q⟩ := q
  cases q
  refine px_ic (k := 4) rfl rfl rfl ?_
  refine px_alu rfl rfl rfl ?_
  refine px_ic (k := 4) rfl rfl rfl ?_
  obtain ⟨fs, h0, h⟩ := xs_some h
  have e1 := xo_some h0
  obtain ⟨t3, ph4, h0, h⟩ := xb_some h
  refine px_cV2 rfl rfl e1 rfl rfl rfl rfl rfl rfl rfl (r_M_num h0 :) (fun _ _ q => nomatch q.2) (fun r ph' q => ?_)
  obtain ⟨rfl, q⟩ := q
  cases q
  cases h
  exact px_lret rfl rfl rfl ⟨rfl, rfl⟩
def f_M_beginning (F : Nat) (a0 : Nat) (a1 : Int32) (a2 : Int32) (ph : px_H) : Option (Int64 × px_H) :=
  (xo ph 12 a0).bind fun _ =>
  xb (f_M_row F a0 a1 a2 ph) fun t1 ph2 =>
  (xo ph2 12 a0).bind fun _ =>
  xb (f_M_num F a0 (t1 + (nI 24)) (nI 8) ph2) fun t3 ph4 =>
  some (t3, ph4)
theorem r_M_beginning {l : Launch} {g : px_G} {d F : Nat} {a0 : Nat} {a1 : Int32} {a2 : Int32} {ph : px_H} {r : Int64} {ph' : px_H} (h : f_M_beginning F a0 a1 a2 ph = some (r, ph')) : PW l g (d + 2) m_M_beginning 0 [.ref a0, .int a1, .int a2] [] ph (px_qJ r ph') := by
  unfold f_M_beginning at h
  refine px_ld rfl rfl rfl rfl rfl ?_
  refine px_ld rfl rfl rfl rfl rfl ?_
  refine px_ld rfl rfl rfl rfl rfl ?_
  refine px_ld rfl rfl rfl rfl rfl ?_
  obtain ⟨fs, h0, h⟩ := xs_some h
  have e1 := xo_some h0
  obtain ⟨t1, ph2, h0, h⟩ := xb_some h
  refine px_cV2 rfl rfl e1 rfl rfl rfl rfl rfl rfl rfl (r_M_row h0 :) (fun _ _ q => nomatch q.2) (fun r ph' q => ?_)
  obtain ⟨rfl, q⟩ := q
  cases q
  refine px_ic (k := 24) rfl rfl rfl ?_
  refine px_alu rfl rfl rfl ?_
  refine px_ic (k := 8) rfl rfl rfl ?_
  obtain ⟨fs, h0, h⟩ := xs_some h
  have e1 := xo_some h0
  obtain ⟨t3, ph4, h0, h⟩ := xb_some h
  refine px_cV2 rfl rfl e1 rfl rfl rfl rfl rfl rfl rfl (r_M_num h0 :) (fun _ _ q => nomatch q.2) (fun r ph' q => ?_)
  obtain ⟨rfl, q⟩ := q
  cases q
  cases h
  exact px_lret rfl rfl rfl ⟨rfl, rfl⟩
def f_M_size (F : Nat) (a0 : Nat) (a1 : Int32) (a2 : Int32) (ph : px_H) : Option (Int64 × px_H) :=
  (xo ph 12 a0).bind fun _ =>
  xb (f_M_row F a0 a1 a2 ph) fun t1 ph2 =>
  (xo ph2 12 a0).bind fun _ =>
  xb (f_M_num F a0 (t1 + (nI 32)) (nI 8) ph2) fun t3 ph4 =>
  some (t3, ph4)
theorem r_M_size {l : Launch} {g : px_G} {d F : Nat} {a0 : Nat} {a1 : Int32} {a2 : Int32} {ph : px_H} {r : Int64} {ph' : px_H} (h : f_M_size F a0 a1 a2 ph = some (r, ph')) : PW l g (d + 2) m_M_size 0 [.ref a0, .int a1, .int a2] [] ph (px_qJ r ph') := by
  unfold f_M_size at h
  refine px_ld rfl rfl rfl rfl rfl ?_
  refine px_ld rfl rfl rfl rfl rfl ?_
  refine px_ld rfl rfl rfl rfl rfl ?_
  refine px_ld rfl rfl rfl rfl rfl ?_
  obtain ⟨fs, h0, h⟩ := xs_some h
  have e1 := xo_some h0
  obtain ⟨t1, ph2, h0, h⟩ := xb_some h
  refine px_cV2 rfl rfl e1 rfl rfl rfl rfl rfl rfl rfl (r_M_row h0 :) (fun _ _ q => nomatch q.2) (fun r ph' q => ?_)
  obtain ⟨rfl, q⟩ := q
  cases q
  refine px_ic (k := 32) rfl rfl rfl ?_
  refine px_alu rfl rfl rfl ?_
  refine px_ic (k := 8) rfl rfl rfl ?_
  obtain ⟨fs, h0, h⟩ := xs_some h
  have e1 := xo_some h0
  obtain ⟨t3, ph4, h0, h⟩ := xb_some h
  refine px_cV2 rfl rfl e1 rfl rfl rfl rfl rfl rfl rfl (r_M_num h0 :) (fun _ _ q => nomatch q.2) (fun r ph' q => ?_)
  obtain ⟨rfl, q⟩ := q
  cases q
  cases h
  exact px_lret rfl rfl rfl ⟨rfl, rfl⟩
def f_M_flagsOf (F : Nat) (a0 : Nat) (a1 : Int32) (a2 : Int32) (ph : px_H) : Option (Int64 × px_H) :=
  (xo ph 12 a0).bind fun _ =>
  xb (f_M_row F a0 a1 a2 ph) fun t1 ph2 =>
  (xo ph2 12 a0).bind fun _ =>
  xb (f_M_num F a0 (t1 + (nI 8)) (nI 8) ph2) fun t3 ph4 =>
  some (t3, ph4)
theorem r_M_flagsOf {l : Launch} {g : px_G} {d F : Nat} {a0 : Nat} {a1 : Int32} {a2 : Int32} {ph : px_H} {r : Int64} {ph' : px_H} (h : f_M_flagsOf F a0 a1 a2 ph = some (r, ph')) : PW l g (d + 2) m_M_flagsOf 0 [.ref a0, .int a1, .int a2] [] ph (px_qJ r ph') := by
  unfold f_M_flagsOf at h
  refine px_ld rfl rfl rfl rfl rfl ?_
  refine px_ld rfl rfl rfl rfl rfl ?_
  refine px_ld rfl rfl rfl rfl rfl ?_
  refine px_ld rfl rfl rfl rfl rfl ?_
  obtain ⟨fs, h0, h⟩ := xs_some h
  have e1 := xo_some h0
  obtain ⟨t1, ph2, h0, h⟩ := xb_some h
  refine px_cV2 rfl rfl e1 rfl rfl rfl rfl rfl rfl rfl (r_M_row h0 :) (fun _ _ q => nomatch q.2) (fun r ph' q => ?_)
  obtain ⟨rfl, q⟩ := q
  cases q
  refine px_ic (k := 8) rfl rfl rfl ?_
  refine px_alu rfl rfl rfl ?_
  refine px_ic (k := 8) rfl rfl rfl ?_
  obtain ⟨fs, h0, h⟩ := xs_some h
  have e1 := xo_some h0
  obtain ⟨t3, ph4, h0, h⟩ := xb_some h
  refine px_cV2 rfl rfl e1 rfl rfl rfl rfl rfl rfl rfl (r_M_num h0 :) (fun _ _ q => nomatch q.2) (fun r ph' q => ?_)
  obtain ⟨rfl, q⟩ := q
  cases q
  cases h
  exact px_lret rfl rfl rfl ⟨rfl, rfl⟩
def f_M_isKept_44 (F : Nat) (s0 : Int32) (ph : px_H) : Option (Int32 × px_H) :=
  xz s0 ph
theorem r_M_isKept_44 {l : Launch} {g : px_G} {d F : Nat} {s0 : Int32} {ph : px_H} {r : Int32} {ph' : px_H} (h : f_M_isKept_44 F s0 ph = some (r, ph')) : PW l g (d + 3) m_M_isKept 44 [px_u, px_u, px_u] [.int s0] ph (px_qI r ph') := by
  unfold f_M_isKept_44 at h
  obtain ⟨e0, e1, e2⟩ := xz_some h
  subst e1 e2
  exact px_iret rfl (Or.inr ⟨rfl, e0⟩) rfl ⟨rfl, rfl⟩
def f_M_isKept_43 (F : Nat) (ph : px_H) : Option (Int32 × px_H) :=
  f_M_isKept_44 F (nI 0) ph
theorem r_M_isKept_43 {l : Launch} {g : px_G} {d F : Nat} {ph : px_H} {r : Int32} {ph' : px_H} (h : f_M_isKept_43 F ph = some (r, ph')) : PW l g (d + 3) m_M_isKept 43 [px_u, px_u, px_u] [] ph (px_qI r ph') := by
  unfold f_M_isKept_43 at h
  refine px_ic (k := 0) rfl rfl rfl ?_
  exact (r_M_isKept_44 h :)
def f_M_isKept_24 (F : Nat) (a0 : Nat) (a1 : Int32) (a2 : Int32) (ph : px_H) : Option (Int32 × px_H) :=
  (xo ph 12 a0).bind fun _ =>
  xb (f_M_flagsOf F a0 a1 a2 ph) fun t1 ph2 =>
  if (t1 &&& ((2 : Int64))) = (lN 0) then
    f_M_isKept_43 F ph2
  else
    f_M_isKept_44 F (nI 1) ph2
theorem r_M_isKept_24 {l : Launch} {g : px_G} {d F : Nat} {a0 : Nat} {a1 : Int32} {a2 : Int32} {ph : px_H} {r : Int32} {ph' : px_H} (h : f_M_isKept_24 F a0 a1 a2 ph = some (r, ph')) : PW l g (d + 3) m_M_isKept 24 [.ref a0, .int a1, .int a2] [] ph (px_qI r ph') := by
  unfold f_M_isKept_24 at h
  refine px_ld rfl rfl rfl rfl rfl ?_
  refine px_ld rfl rfl rfl rfl rfl ?_
  refine px_ld rfl rfl rfl rfl rfl ?_
  obtain ⟨fs, h0, h⟩ := xs_some h
  have e1 := xo_some h0
  obtain ⟨t1, ph2, h0, h⟩ := xb_some h
  refine px_cV2 rfl rfl e1 rfl rfl rfl rfl rfl rfl rfl (r_M_flagsOf h0 :) (fun _ _ q => nomatch q.2) (fun r ph' q => ?_)
  obtain ⟨rfl, q⟩ := q
  cases q
  refine px_ldc2 rfl rfl rfl ?_
  refine px_alu rfl rfl rfl ?_
  refine px_alu rfl rfl rfl ?_
  refine px_alu rfl rfl rfl ?_
  refine px_ifeq rfl rfl rfl (fun hc => ?_) (fun hc => ?_)
  · replace h := (if_pos ((lg_cmp_eq _ _).mp hc)).symm.trans h
    refine px_forget (n := 0) (lv' := [_, _, _]) rfl ?_
    refine px_forget (n := 1) (lv' := [_, _, _]) rfl ?_
    refine px_forget (n := 2) (lv' := [_, _, _]) rfl ?_
    exact (r_M_isKept_43 h :)
  · replace h := (if_neg (fun q => hc ((lg_cmp_eq _ _).mpr q))).symm.trans h
    refine px_ic (k := 1) rfl rfl rfl ?_
    refine px_goto rfl rfl rfl ?_
    refine px_forget (n := 0) (lv' := [_, _, _]) rfl ?_
    refine px_forget (n := 1) (lv' := [_, _, _]) rfl ?_
    refine px_forget (n := 2) (lv' := [_, _, _]) rfl ?_
    exact (r_M_isKept_44 h :)
def f_M_isKept (F : Nat) (a0 : Nat) (a1 : Int32) (a2 : Int32) (ph : px_H) : Option (Int32 × px_H) :=
  (xo ph 12 a0).bind fun _ =>
  xb (f_M_type F a0 a1 a2 ph) fun t1 ph2 =>
  if t1 = (lN 1) then
    f_M_isKept_24 F a0 a1 a2 ph2
  else
    (xo ph2 12 a0).bind fun _ =>
    xb (f_M_type F a0 a1 a2 ph2) fun t3 ph4 =>
    if t3 = ((8 : Int64)) then
      f_M_isKept_24 F a0 a1 a2 ph4
    else
      f_M_isKept_43 F ph4
theorem r_M_isKept {l : Launch} {g : px_G} {d F : Nat} {a0 : Nat} {a1 : Int32} {a2 : Int32} {ph : px_H} {r : Int32} {ph' : px_H} (h : f_M_isKept F a0 a1 a2 ph = some (r, ph')) : PW l g (d + 3) m_M_isKept 0 [.ref a0, .int a1, .int a2] [] ph (px_qI r ph') := by
  unfold f_M_isKept at h
  refine px_ld rfl rfl rfl rfl rfl ?_
  refine px_ld rfl rfl rfl rfl rfl ?_
  refine px_ld rfl rfl rfl rfl rfl ?_
  obtain ⟨fs, h0, h⟩ := xs_some h
  have e1 := xo_some h0
  obtain ⟨t1, ph2, h0, h⟩ := xb_some h
  refine px_cV2 rfl rfl e1 rfl rfl rfl rfl rfl rfl rfl (r_M_type h0 :) (fun _ _ q => nomatch q.2) (fun r ph' q => ?_)
  obtain ⟨rfl, q⟩ := q
  cases q
  refine px_alu rfl rfl rfl ?_
  refine px_alu rfl rfl rfl ?_
  refine px_ifeq rfl rfl rfl (fun hc => ?_) (fun hc => ?_)
  · replace h := (if_pos ((lg_cmp_eq _ _).mp hc)).symm.trans h
    exact (r_M_isKept_24 h :)
  · replace h := (if_neg (fun q => hc ((lg_cmp_eq _ _).mpr q))).symm.trans h
    refine px_ld rfl rfl rfl rfl rfl ?_
    refine px_ld rfl rfl rfl rfl rfl ?_
    refine px_ld rfl rfl rfl rfl rfl ?_
    obtain ⟨fs, h0, h⟩ := xs_some h
    have e1 := xo_some h0
    obtain ⟨t3, ph4, h0, h⟩ := xb_some h
    refine px_cV2 rfl rfl e1 rfl rfl rfl rfl rfl rfl rfl (r_M_type h0 :) (fun _ _ q => nomatch q.2) (fun r ph' q => ?_)
    obtain ⟨rfl, q⟩ := q
    cases q
    refine px_ldc2 rfl rfl rfl ?_
    refine px_alu rfl rfl rfl ?_
    refine px_ifne rfl rfl rfl (fun hc => ?_) (fun hc => ?_)
    · replace h := (if_neg (fun q => hc ((lg_cmp_eq _ _).mpr q))).symm.trans h
      refine px_forget (n := 0) (lv' := [_, _, _]) rfl ?_
      refine px_forget (n := 1) (lv' := [_, _, _]) rfl ?_
      refine px_forget (n := 2) (lv' := [_, _, _]) rfl ?_
      exact (r_M_isKept_43 h :)
    · replace h := (if_pos ((lg_cmp_eq _ _).mp hc)).symm.trans h
      exact (r_M_isKept_24 h :)
def f_M_align (F : Nat) (a0 : Nat) (a1 : Int32) (a2 : Int32) (ph : px_H) : Option (Int64 × px_H) :=
  (xo ph 12 a0).bind fun _ =>
  xb (f_M_row F a0 a1 a2 ph) fun t1 ph2 =>
  (xo ph2 12 a0).bind fun _ =>
  xb (f_M_num F a0 (t1 + (nI 48)) (nI 8) ph2) fun t3 ph4 =>
  some (t3, ph4)
theorem r_M_align {l : Launch} {g : px_G} {d F : Nat} {a0 : Nat} {a1 : Int32} {a2 : Int32} {ph : px_H} {r : Int64} {ph' : px_H} (h : f_M_align F a0 a1 a2 ph = some (r, ph')) : PW l g (d + 2) m_M_align 0 [.ref a0, .int a1, .int a2] [] ph (px_qJ r ph') := by
  unfold f_M_align at h
  refine px_ld rfl rfl rfl rfl rfl ?_
  refine px_ld rfl rfl rfl rfl rfl ?_
  refine px_ld rfl rfl rfl rfl rfl ?_
  refine px_ld rfl rfl rfl rfl rfl ?_
  obtain ⟨fs, h0, h⟩ := xs_some h
  have e1 := xo_some h0
  obtain ⟨t1, ph2, h0, h⟩ := xb_some h
  refine px_cV2 rfl rfl e1 rfl rfl rfl rfl rfl rfl rfl (r_M_row h0 :) (fun _ _ q => nomatch q.2) (fun r ph' q => ?_)
  obtain ⟨rfl, q⟩ := q
  cases q
  refine px_ic (k := 48) rfl rfl rfl ?_
  refine px_alu rfl rfl rfl ?_
  refine px_ic (k := 8) rfl rfl rfl ?_
  obtain ⟨fs, h0, h⟩ := xs_some h
  have e1 := xo_some h0
  obtain ⟨t3, ph4, h0, h⟩ := xb_some h
  refine px_cV2 rfl rfl e1 rfl rfl rfl rfl rfl rfl rfl (r_M_num h0 :) (fun _ _ q => nomatch q.2) (fun r ph' q => ?_)
  obtain ⟨rfl, q⟩ := q
  cases q
  cases h
  exact px_lret rfl rfl rfl ⟨rfl, rfl⟩
def f_M_isPower_29 (F : Nat) (s0 : Int32) (ph : px_H) : Option (Int32 × px_H) :=
  xz s0 ph
theorem r_M_isPower_29 {l : Launch} {g : px_G} {d F : Nat} {s0 : Int32} {ph : px_H} {r : Int32} {ph' : px_H} (h : f_M_isPower_29 F s0 ph = some (r, ph')) : PW l g (d + 0) m_M_isPower 29 [px_u, px_u] [.int s0] ph (px_qI r ph') := by
  unfold f_M_isPower_29 at h
  obtain ⟨e0, e1, e2⟩ := xz_some h
  subst e1 e2
  exact px_iret rfl (Or.inr ⟨rfl, e0⟩) rfl ⟨rfl, rfl⟩
def f_M_isPower_28 (F : Nat) (ph : px_H) : Option (Int32 × px_H) :=
  f_M_isPower_29 F (nI 0) ph
theorem r_M_isPower_28 {l : Launch} {g : px_G} {d F : Nat} {ph : px_H} {r : Int32} {ph' : px_H} (h : f_M_isPower_28 F ph = some (r, ph')) : PW l g (d + 0) m_M_isPower 28 [px_u, px_u] [] ph (px_qI r ph') := by
  unfold f_M_isPower_28 at h
  refine px_ic (k := 0) rfl rfl rfl ?_
  exact (r_M_isPower_29 h :)
def f_M_isPower (F : Nat) (a0 : Int64) (ph : px_H) : Option (Int32 × px_H) :=
  if a0 < (lN 1) then
    f_M_isPower_28 F ph
  else
    if ((4096 : Int64)) < a0 then
      f_M_isPower_28 F ph
    else
      if (a0 &&& (a0 - (lN 1))) = (lN 0) then
        f_M_isPower_29 F (nI 1) ph
      else
        f_M_isPower_28 F ph
theorem r_M_isPower {l : Launch} {g : px_G} {d F : Nat} {a0 : Int64} {ph : px_H} {r : Int32} {ph' : px_H} (h : f_M_isPower F a0 ph = some (r, ph')) : PW l g (d + 0) m_M_isPower 0 [.long a0, px_u] [] ph (px_qI r ph') := by
  unfold f_M_isPower at h
  refine px_ld rfl rfl rfl rfl rfl ?_
  refine px_alu rfl rfl rfl ?_
  refine px_alu rfl rfl rfl ?_
  refine px_iflt rfl rfl rfl (fun hc => ?_) (fun hc => ?_)
  · replace h := (if_pos ((lg_cmp_lt _ _).mp hc)).symm.trans h
    refine px_forget (n := 0) (lv' := [_, _]) rfl ?_
    exact (r_M_isPower_28 h :)
  · replace h := (if_neg (fun q => hc ((lg_cmp_lt _ _).mpr q))).symm.trans h
    refine px_ld rfl rfl rfl rfl rfl ?_
    refine px_ldc2 rfl rfl rfl ?_
    refine px_alu rfl rfl rfl ?_
    refine px_ifgt rfl rfl rfl (fun hc => ?_) (fun hc => ?_)
    · replace h := (if_pos ((lg_cmp_gt _ _).mp hc)).symm.trans h
      refine px_forget (n := 0) (lv' := [_, _]) rfl ?_
      exact (r_M_isPower_28 h :)
    · replace h := (if_neg (fun q => hc ((lg_cmp_gt _ _).mpr q))).symm.trans h
      refine px_ld rfl rfl rfl rfl rfl ?_
      refine px_ld rfl rfl rfl rfl rfl ?_
      refine px_alu rfl rfl rfl ?_
      refine px_alu rfl rfl rfl ?_
      refine px_alu rfl rfl rfl ?_
      refine px_alu rfl rfl rfl ?_
      refine px_alu rfl rfl rfl ?_
      refine px_ifne rfl rfl rfl (fun hc => ?_) (fun hc => ?_)
      · replace h := (if_neg (fun q => hc ((lg_cmp_eq _ _).mpr q))).symm.trans h
        refine px_forget (n := 0) (lv' := [_, _]) rfl ?_
        exact (r_M_isPower_28 h :)
      · replace h := (if_pos ((lg_cmp_eq _ _).mp hc)).symm.trans h
        refine px_ic (k := 1) rfl rfl rfl ?_
        refine px_goto rfl rfl rfl ?_
        refine px_forget (n := 0) (lv' := [_, _]) rfl ?_
        exact (r_M_isPower_29 h :)
def f_M_sectionError_121 (F : Nat) (s0 : Int32) (ph : px_H) : Option (Int32 × px_H) :=
  some (s0, ph)
theorem r_M_sectionError_121 {l : Launch} {g : px_G} {d F : Nat} {s0 : Int32} {ph : px_H} {r : Int32} {ph' : px_H} (h : f_M_sectionError_121 F s0 ph = some (r, ph')) : PW l g (d + 4) m_M_sectionError 121 [px_u, px_u, px_u, px_u, px_u] [.int s0] ph (px_qI r ph') := by
  unfold f_M_sectionError_121 at h
  cases h
  exact px_iret rfl (Or.inl rfl) rfl ⟨rfl, rfl⟩
def f_M_sectionError_120 (F : Nat) (ph : px_H) : Option (Int32 × px_H) :=
  f_M_sectionError_121 F (nI 0) ph
theorem r_M_sectionError_120 {l : Launch} {g : px_G} {d F : Nat} {ph : px_H} {r : Int32} {ph' : px_H} (h : f_M_sectionError_120 F ph = some (r, ph')) : PW l g (d + 4) m_M_sectionError 120 [px_u, px_u, px_u, px_u, px_u] [] ph (px_qI r ph') := by
  unfold f_M_sectionError_120 at h
  refine px_ic (k := 0) rfl rfl rfl ?_
  exact (r_M_sectionError_121 h :)
def f_M_sectionError_116 (F : Nat) (ph : px_H) : Option (Int32 × px_H) :=
  f_M_sectionError_121 F (nI 4) ph
theorem r_M_sectionError_116 {l : Launch} {g : px_G} {d F : Nat} {ph : px_H} {r : Int32} {ph' : px_H} (h : f_M_sectionError_116 F ph = some (r, ph')) : PW l g (d + 4) m_M_sectionError 116 [px_u, px_u, px_u, px_u, px_u] [] ph (px_qI r ph') := by
  unfold f_M_sectionError_116 at h
  refine px_ic (k := 4) rfl rfl rfl ?_
  refine px_goto rfl (by decide) rfl ?_
  exact (r_M_sectionError_121 h :)
def f_M_sectionError_86 (F : Nat) (a0 : Nat) (a1 : Int32) (a3 : Int32) (s0 : Int32) (ph : px_H) : Option (Int32 × px_H) :=
  if s0 = 0 then
    (xo ph 12 a0).bind fun _ =>
    xb (f_M_align F a0 a1 a3 ph) fun t1 ph2 =>
    if t1 = (lN 0) then
      f_M_sectionError_120 F ph2
    else
      (xo ph2 12 a0).bind fun _ =>
      xb (f_M_align F a0 a1 a3 ph2) fun t3 ph4 =>
      xb (f_M_isPower F t3 ph4) fun t5 ph6 =>
      if t5 = 0 then
        f_M_sectionError_116 F ph6
      else
        f_M_sectionError_120 F ph6
  else
    f_M_sectionError_116 F ph
theorem r_M_sectionError_86 {l : Launch} {g : px_G} {d F : Nat} {a0 : Nat} {a1 : Int32} {a3 : Int32} {s0 : Int32} {ph : px_H} {r : Int32} {ph' : px_H} (h : f_M_sectionError_86 F a0 a1 a3 s0 ph = some (r, ph')) : PW l g (d + 4) m_M_sectionError 86 [.ref a0, .int a1, px_u, .int a3, px_u] [.int s0] ph (px_qI r ph') := by
  unfold f_M_sectionError_86 at h
  refine px_st (lv' := [_, _, _, _, _]) rfl rfl rfl rfl rfl rfl rfl ?_
  refine px_ld rfl rfl rfl rfl rfl ?_
  refine px_ifne rfl (by decide) rfl (fun hc => ?_) (fun hc => ?_)
  · replace h := (if_neg hc).symm.trans h
    refine px_forget (n := 0) (lv' := [_, _, _, _, _]) rfl ?_
    refine px_forget (n := 1) (lv' := [_, _, _, _, _]) rfl ?_
    refine px_forget (n := 3) (lv' := [_, _, _, _, _]) rfl ?_
    refine px_forget (n := 4) (lv' := [_, _, _, _, _]) rfl ?_
    exact (r_M_sectionError_116 h :)
  · replace h := (if_pos hc).symm.trans h
    refine px_ld rfl rfl rfl rfl rfl ?_
    refine px_ld rfl rfl rfl rfl rfl ?_
    refine px_ld rfl rfl rfl rfl rfl ?_
    obtain ⟨fs, h0, h⟩ := xs_some h
    have e1 := xo_some h0
    obtain ⟨t1, ph2, h0, h⟩ := xb_some h
    refine px_cV2 rfl rfl e1 rfl rfl rfl rfl rfl rfl rfl (r_M_align h0 :) (fun _ _ q => nomatch q.2) (fun r ph' q => ?_)
    obtain ⟨rfl, q⟩ := q
    cases q
    refine px_alu rfl rfl rfl ?_
    refine px_alu rfl rfl rfl ?_
    refine px_ifeq rfl (by decide) rfl (fun hc => ?_) (fun hc => ?_)
    · replace h := (if_pos ((lg_cmp_eq _ _).mp hc)).symm.trans h
      refine px_forget (n := 0) (lv' := [_, _, _, _, _]) rfl ?_
      refine px_forget (n := 1) (lv' := [_, _, _, _, _]) rfl ?_
      refine px_forget (n := 3) (lv' := [_, _, _, _, _]) rfl ?_
      refine px_forget (n := 4) (lv' := [_, _, _, _, _]) rfl ?_
      exact (r_M_sectionError_120 h :)
    · replace h := (if_neg (fun q => hc ((lg_cmp_eq _ _).mpr q))).symm.trans h
      refine px_ld rfl rfl rfl rfl rfl ?_
      refine px_ld rfl rfl rfl rfl rfl ?_
      refine px_ld rfl rfl rfl rfl rfl ?_
      obtain ⟨fs, h0, h⟩ := xs_some h
      have e1 := xo_some h0
      obtain ⟨t3, ph4, h0, h⟩ := xb_some h
      refine px_cV2 rfl rfl e1 rfl rfl rfl rfl rfl rfl rfl (r_M_align h0 :) (fun _ _ q => nomatch q.2) (fun r ph' q => ?_)
      obtain ⟨rfl, q⟩ := q
      cases q
      obtain ⟨t5, ph6, h0, h⟩ := xb_some h
      refine px_cS1 rfl rfl rfl rfl rfl rfl rfl (r_M_isPower h0 :) (fun _ _ q => nomatch q.2) (fun r ph' q => ?_)
      obtain ⟨rfl, q⟩ := q
      cases q
      refine px_ifne rfl (by decide) rfl (fun hc => ?_) (fun hc => ?_)
      · replace h := (if_neg hc).symm.trans h
        refine px_forget (n := 0) (lv' := [_, _, _, _, _]) rfl ?_
        refine px_forget (n := 1) (lv' := [_, _, _, _, _]) rfl ?_
        refine px_forget (n := 3) (lv' := [_, _, _, _, _]) rfl ?_
        refine px_forget (n := 4) (lv' := [_, _, _, _, _]) rfl ?_
        exact (r_M_sectionError_120 h :)
      · replace h := (if_pos hc).symm.trans h
        refine px_forget (n := 0) (lv' := [_, _, _, _, _]) rfl ?_
        refine px_forget (n := 1) (lv' := [_, _, _, _, _]) rfl ?_
        refine px_forget (n := 3) (lv' := [_, _, _, _, _]) rfl ?_
        refine px_forget (n := 4) (lv' := [_, _, _, _, _]) rfl ?_
        exact (r_M_sectionError_116 h :)
def f_M_sectionError_81 (F : Nat) (a0 : Nat) (a1 : Int32) (a3 : Int32) (ph : px_H) : Option (Int32 × px_H) :=
  f_M_sectionError_86 F a0 a1 a3 (nI 1) ph
theorem r_M_sectionError_81 {l : Launch} {g : px_G} {d F : Nat} {a0 : Nat} {a1 : Int32} {a3 : Int32} {ph : px_H} {r : Int32} {ph' : px_H} (h : f_M_sectionError_81 F a0 a1 a3 ph = some (r, ph')) : PW l g (d + 4) m_M_sectionError 81 [.ref a0, .int a1, px_u, .int a3, px_u] [] ph (px_qI r ph') := by
  unfold f_M_sectionError_81 at h
  refine px_ic (k := 1) rfl rfl rfl ?_
  refine px_goto rfl (by decide) rfl ?_
  exact (r_M_sectionError_86 h :)
def f_M_sectionError_46 (F : Nat) (a0 : Nat) (a1 : Int32) (a3 : Int32) (ph : px_H) : Option (Int32 × px_H) :=
  (xo ph 12 a0).bind fun _ =>
  xb (f_M_isKept F a0 a1 a3 ph) fun t1 ph2 =>
  if t1 = 0 then
    some (nI 0, ph2)
  else
    (xo ph2 12 a0).bind fun _ =>
    xb (f_M_size F a0 a1 a3 ph2) fun t3 ph4 =>
    if t3 < (lN 0) then
      f_M_sectionError_81 F a0 a1 a3 ph4
    else
      (xo ph4 12 a0).bind fun _ =>
      xb (f_M_size F a0 a1 a3 ph4) fun t5 ph6 =>
      if t5 ≤ ((16384 : Int64)) then
        f_M_sectionError_86 F a0 a1 a3 (nI 0) ph6
      else
        f_M_sectionError_81 F a0 a1 a3 ph6
theorem r_M_sectionError_46 {l : Launch} {g : px_G} {d F : Nat} {a0 : Nat} {a1 : Int32} {a3 : Int32} {ph : px_H} {r : Int32} {ph' : px_H} (h : f_M_sectionError_46 F a0 a1 a3 ph = some (r, ph')) : PW l g (d + 4) m_M_sectionError 46 [.ref a0, .int a1, px_u, .int a3, px_u] [] ph (px_qI r ph') := by
  unfold f_M_sectionError_46 at h
  refine px_ld rfl rfl rfl rfl rfl ?_
  refine px_ld rfl rfl rfl rfl rfl ?_
  refine px_ld rfl rfl rfl rfl rfl ?_
  obtain ⟨fs, h0, h⟩ := xs_some h
  have e1 := xo_some h0
  obtain ⟨t1, ph2, h0, h⟩ := xb_some h
  refine px_cV2 rfl rfl e1 rfl rfl rfl rfl rfl rfl rfl (r_M_isKept h0 :) (fun _ _ q => nomatch q.2) (fun r ph' q => ?_)
  obtain ⟨rfl, q⟩ := q
  cases q
  refine px_ifne rfl (by decide) rfl (fun hc => ?_) (fun hc => ?_)
  · replace h := (if_neg hc).symm.trans h
    refine px_ld rfl rfl rfl rfl rfl ?_
    refine px_ld rfl rfl rfl rfl rfl ?_
    refine px_ld rfl rfl rfl rfl rfl ?_
    obtain ⟨fs, h0, h⟩ := xs_some h
    have e1 := xo_some h0
    obtain ⟨t3, ph4, h0, h⟩ := xb_some h
    refine px_cV2 rfl rfl e1 rfl rfl rfl rfl rfl rfl rfl (r_M_size h0 :) (fun _ _ q => nomatch q.2) (fun r ph' q => ?_)
    obtain ⟨rfl, q⟩ := q
    cases q
    refine px_alu rfl rfl rfl ?_
    refine px_alu rfl rfl rfl ?_
    refine px_iflt rfl (by decide) rfl (fun hc => ?_) (fun hc => ?_)
    · replace h := (if_pos ((lg_cmp_lt _ _).mp hc)).symm.trans h
      exact (r_M_sectionError_81 h :)
    · replace h := (if_neg (fun q => hc ((lg_cmp_lt _ _).mpr q))).symm.trans h
      refine px_ld rfl rfl rfl rfl rfl ?_
      refine px_ld rfl rfl rfl rfl rfl ?_
      refine px_ld rfl rfl rfl rfl rfl ?_
      obtain ⟨fs, h0, h⟩ := xs_some h
      have e1 := xo_some h0
      obtain ⟨t5, ph6, h0, h⟩ := xb_some h
      refine px_cV2 rfl rfl e1 rfl rfl rfl rfl rfl rfl rfl (r_M_size h0 :) (fun _ _ q => nomatch q.2) (fun r ph' q => ?_)
      obtain ⟨rfl, q⟩ := q
      cases q
      refine px_ldc2 rfl rfl rfl ?_
      refine px_alu rfl rfl rfl ?_
      refine px_ifle rfl (by decide) rfl (fun hc => ?_) (fun hc => ?_)
      · replace h := (if_pos ((lg_cmp_le _ _).mp hc)).symm.trans h
        refine px_ic (k := 0) rfl rfl rfl ?_
        exact (r_M_sectionError_86 h :)
      · replace h := (if_neg (fun q => hc ((lg_cmp_le _ _).mpr q))).symm.trans h
        exact (r_M_sectionError_81 h :)
  · replace h := (if_pos hc).symm.trans h
    refine px_ic (k := 0) rfl rfl rfl ?_
    cases h
    exact px_iret rfl (Or.inl rfl) rfl ⟨rfl, rfl⟩
def f_M_sectionError (F : Nat) (a0 : Nat) (a1 : Int32) (a2 : Int32) (a3 : Int32) (ph : px_H) : Option (Int32 × px_H) :=
  (xo ph 12 a0).bind fun _ =>
  xb (f_M_type F a0 a1 a3 ph) fun t1 ph2 =>
  if t1 = (lN 0) then
    f_M_sectionError_46 F a0 a1 a3 ph2
  else
    (xo ph2 12 a0).bind fun _ =>
    xb (f_M_type F a0 a1 a3 ph2) fun t3 ph4 =>
    if t3 = ((8 : Int64)) then
      f_M_sectionError_46 F a0 a1 a3 ph4
    else
      (xo ph4 12 a0).bind fun _ =>
      xb (f_M_beginning F a0 a1 a3 ph4) fun t5 ph6 =>
      (xo ph6 12 a0).bind fun _ =>
      xb (f_M_size F a0 a1 a3 ph6) fun t7 ph8 =>
      xb (f_M_lies F t5 t7 a2.toInt64 ph8) fun t9 ph10 =>
      if t9 = 0 then
        some (nI 3, ph10)
      else
        f_M_sectionError_46 F a0 a1 a3 ph10
theorem r_M_sectionError {l : Launch} {g : px_G} {d F : Nat} {a0 : Nat} {a1 : Int32} {a2 : Int32} {a3 : Int32} {ph : px_H} {r : Int32} {ph' : px_H} (h : f_M_sectionError F a0 a1 a2 a3 ph = some (r, ph')) : PW l g (d + 4) m_M_sectionError 0 [.ref a0, .int a1, .int a2, .int a3, px_u] [] ph (px_qI r ph') := by
  unfold f_M_sectionError at h
  refine px_ld rfl rfl rfl rfl rfl ?_
  refine px_ld rfl rfl rfl rfl rfl ?_
  refine px_ld rfl rfl rfl rfl rfl ?_
  obtain ⟨fs, h0, h⟩ := xs_some h
  have e1 := xo_some h0
  obtain ⟨t1, ph2, h0, h⟩ := xb_some h
  refine px_cV2 rfl rfl e1 rfl rfl rfl rfl rfl rfl rfl (r_M_type h0 :) (fun _ _ q => nomatch q.2) (fun r ph' q => ?_)
  obtain ⟨rfl, q⟩ := q
  cases q
  refine px_alu rfl rfl rfl ?_
  refine px_alu rfl rfl rfl ?_
  refine px_ifeq rfl (by decide) rfl (fun hc => ?_) (fun hc => ?_)
  · replace h := (if_pos ((lg_cmp_eq _ _).mp hc)).symm.trans h
    refine px_forget (n := 2) (lv' := [_, _, _, _, _]) rfl ?_
    exact (r_M_sectionError_46 h :)
  · replace h := (if_neg (fun q => hc ((lg_cmp_eq _ _).mpr q))).symm.trans h
    refine px_ld rfl rfl rfl rfl rfl ?_
    refine px_ld rfl rfl rfl rfl rfl ?_
    refine px_ld rfl rfl rfl rfl rfl ?_
    obtain ⟨fs, h0, h⟩ := xs_some h
    have e1 := xo_some h0
    obtain ⟨t3, ph4, h0, h⟩ := xb_some h
    refine px_cV2 rfl rfl e1 rfl rfl rfl rfl rfl rfl rfl (r_M_type h0 :) (fun _ _ q => nomatch q.2) (fun r ph' q => ?_)
    obtain ⟨rfl, q⟩ := q
    cases q
    refine px_ldc2 rfl rfl rfl ?_
    refine px_alu rfl rfl rfl ?_
    refine px_ifeq rfl (by decide) rfl (fun hc => ?_) (fun hc => ?_)
    · replace h := (if_pos ((lg_cmp_eq _ _).mp hc)).symm.trans h
      refine px_forget (n := 2) (lv' := [_, _, _, _, _]) rfl ?_
      exact (r_M_sectionError_46 h :)
    · replace h := (if_neg (fun q => hc ((lg_cmp_eq _ _).mpr q))).symm.trans h
      refine px_ld rfl rfl rfl rfl rfl ?_
      refine px_ld rfl rfl rfl rfl rfl ?_
      refine px_ld rfl rfl rfl rfl rfl ?_
      obtain ⟨fs, h0, h⟩ := xs_some h
      have e1 := xo_some h0
      obtain ⟨t5, ph6, h0, h⟩ := xb_some h
      refine px_cV2 rfl rfl e1 rfl rfl rfl rfl rfl rfl rfl (r_M_beginning h0 :) (fun _ _ q => nomatch q.2) (fun r ph' q => ?_)
      obtain ⟨rfl, q⟩ := q
      cases q
      refine px_ld rfl rfl rfl rfl rfl ?_
      refine px_ld rfl rfl rfl rfl rfl ?_
      refine px_ld rfl rfl rfl rfl rfl ?_
      obtain ⟨fs, h0, h⟩ := xs_some h
      have e1 := xo_some h0
      obtain ⟨t7, ph8, h0, h⟩ := xb_some h
      refine px_cV2 rfl rfl e1 rfl rfl rfl rfl rfl rfl rfl (r_M_size h0 :) (fun _ _ q => nomatch q.2) (fun r ph' q => ?_)
      obtain ⟨rfl, q⟩ := q
      cases q
      refine px_ld rfl rfl rfl rfl rfl ?_
      refine px_alu rfl rfl rfl ?_
      obtain ⟨t9, ph10, h0, h⟩ := xb_some h
      refine px_cS3 rfl rfl rfl rfl rfl rfl rfl (r_M_lies h0 :) (fun _ _ q => nomatch q.2) (fun r ph' q => ?_)
      obtain ⟨rfl, q⟩ := q
      cases q
      refine px_ifne rfl (by decide) rfl (fun hc => ?_) (fun hc => ?_)
      · replace h := (if_neg hc).symm.trans h
        refine px_forget (n := 2) (lv' := [_, _, _, _, _]) rfl ?_
        exact (r_M_sectionError_46 h :)
      · replace h := (if_pos hc).symm.trans h
        refine px_ic (k := 3) rfl rfl rfl ?_
        cases h
        exact px_iret rfl (Or.inl rfl) rfl ⟨rfl, rfl⟩
def f_M_symbols_32 (F : Nat) (ph : px_H) : Option (Int32 × px_H) :=
  some (nI 0, ph)
theorem r_M_symbols_32 {l : Launch} {g : px_G} {d F : Nat} {ph : px_H} {r : Int32} {ph' : px_H} (h : f_M_symbols_32 F ph = some (r, ph')) : PW l g (d + 3) m_M_symbols 32 [px_u, px_u, px_u] [] ph (px_qI r ph') := by
  unfold f_M_symbols_32 at h
  refine px_ic (k := 0) rfl rfl rfl ?_
  cases h
  exact px_iret rfl (Or.inl rfl) rfl ⟨rfl, rfl⟩
def f_M_symbols_24 (F : Nat) (a2 : Int32) (ph : px_H) : Option (Int32 × px_H) :=
  some (a2, ph)
theorem r_M_symbols_24 {l : Launch} {g : px_G} {d F : Nat} {a2 : Int32} {ph : px_H} {r : Int32} {ph' : px_H} (h : f_M_symbols_24 F a2 ph = some (r, ph')) : PW l g (d + 3) m_M_symbols 24 [px_u, px_u, .int a2] [] ph (px_qI r ph') := by
  unfold f_M_symbols_24 at h
  refine px_ld rfl rfl rfl rfl rfl ?_
  cases h
  exact px_iret rfl (Or.inl rfl) rfl ⟨rfl, rfl⟩
def f_M_symbols_2 (F : Nat) : Nat → Nat → Int32 → Int32 → px_H → Option (Int32 × px_H)
  | 0, _, _, _, _ => none
  | n + 1, a0, a1, a2, ph =>
    (xo ph 12 a0).bind fun _ =>
    xb (f_M_sections F a0 a1 ph) fun t1 ph2 =>
    if t1 ≤ a2 then
      f_M_symbols_32 F ph2
    else
      (xo ph2 12 a0).bind fun _ =>
      xb (f_M_type F a0 a1 a2 ph2) fun t3 ph4 =>
      if t3 = ((2 : Int64)) then
        f_M_symbols_24 F a2 ph4
      else
        f_M_symbols_2 F n a0 a1 (a2 + nI 1) ph4
theorem r_M_symbols_2 {l : Launch} {g : px_G} {d F : Nat} : ∀ (n : Nat) {a0 : Nat} {a1 : Int32} {a2 : Int32} {ph : px_H} {r : Int32} {ph' : px_H}, f_M_symbols_2 F n a0 a1 a2 ph = some (r, ph') → PW l g (d + 3) m_M_symbols 2 [.ref a0, .int a1, .int a2] [] ph (px_qI r ph') := by
  intro n
  induction n with
  | zero => intro _ _ _ _ _ _ h; cases h
  | succ n ih =>
    intro a0 a1 a2 ph r ph' h
    unfold f_M_symbols_2 at h
    refine px_ld rfl rfl rfl rfl rfl ?_
    refine px_ld rfl rfl rfl rfl rfl ?_
    refine px_ld rfl rfl rfl rfl rfl ?_
    obtain ⟨fs, h0, h⟩ := xs_some h
    have e1 := xo_some h0
    obtain ⟨t1, ph2, h0, h⟩ := xb_some h
    refine px_cV1 rfl rfl e1 rfl rfl rfl rfl rfl rfl rfl (r_M_sections h0 :) (fun _ _ q => nomatch q.2) (fun r ph' q => ?_)
    obtain ⟨rfl, q⟩ := q
    cases q
    refine px_icge rfl rfl rfl (fun hc => ?_) (fun hc => ?_)
    · replace h := (if_pos hc).symm.trans h
      refine px_forget (n := 0) (lv' := [_, _, _]) rfl ?_
      refine px_forget (n := 1) (lv' := [_, _, _]) rfl ?_
      refine px_forget (n := 2) (lv' := [_, _, _]) rfl ?_
      exact (r_M_symbols_32 h :)
    · replace h := (if_neg hc).symm.trans h
      refine px_ld rfl rfl rfl rfl rfl ?_
      refine px_ld rfl rfl rfl rfl rfl ?_
      refine px_ld rfl rfl rfl rfl rfl ?_
      obtain ⟨fs, h0, h⟩ := xs_some h
      have e1 := xo_some h0
      obtain ⟨t3, ph4, h0, h⟩ := xb_some h
      refine px_cV2 rfl rfl e1 rfl rfl rfl rfl rfl rfl rfl (r_M_type h0 :) (fun _ _ q => nomatch q.2) (fun r ph' q => ?_)
      obtain ⟨rfl, q⟩ := q
      cases q
      refine px_ldc2 rfl rfl rfl ?_
      refine px_alu rfl rfl rfl ?_
      refine px_ifne rfl rfl rfl (fun hc => ?_) (fun hc => ?_)
      · replace h := (if_neg (fun q => hc ((lg_cmp_eq _ _).mpr q))).symm.trans h
        refine px_iinc (lv' := [_, _, _]) rfl rfl rfl rfl rfl rfl ?_
        refine px_goto rfl rfl rfl ?_
        exact (ih h :)
      · replace h := (if_pos ((lg_cmp_eq _ _).mp hc)).symm.trans h
        refine px_forget (n := 0) (lv' := [_, _, _]) rfl ?_
        refine px_forget (n := 1) (lv' := [_, _, _]) rfl ?_
        exact (r_M_symbols_24 h :)
def f_M_symbols (F : Nat) (a0 : Nat) (a1 : Int32) (ph : px_H) : Option (Int32 × px_H) :=
  f_M_symbols_2 F F a0 a1 (nI 1) ph
theorem r_M_symbols {l : Launch} {g : px_G} {d F : Nat} {a0 : Nat} {a1 : Int32} {ph : px_H} {r : Int32} {ph' : px_H} (h : f_M_symbols F a0 a1 ph = some (r, ph')) : PW l g (d + 3) m_M_symbols 0 [.ref a0, .int a1, px_u] [] ph (px_qI r ph') := by
  unfold f_M_symbols at h
  refine px_ic (k := 1) rfl rfl rfl ?_
  refine px_st (lv' := [_, _, _]) rfl rfl rfl rfl rfl rfl rfl ?_
  exact (r_M_symbols_2 _ h :)
def f_M_linkOf (F : Nat) (a0 : Nat) (a1 : Int32) (a2 : Int32) (ph : px_H) : Option (Int64 × px_H) :=
  (xo ph 12 a0).bind fun _ =>
  xb (f_M_row F a0 a1 a2 ph) fun t1 ph2 =>
  (xo ph2 12 a0).bind fun _ =>
  xb (f_M_num F a0 (t1 + (nI 40)) (nI 4) ph2) fun t3 ph4 =>
  some (t3, ph4)
theorem r_M_linkOf {l : Launch} {g : px_G} {d F : Nat} {a0 : Nat} {a1 : Int32} {a2 : Int32} {ph : px_H} {r : Int64} {ph' : px_H} (h : f_M_linkOf F a0 a1 a2 ph = some (r, ph')) : PW l g (d + 2) m_M_linkOf 0 [.ref a0, .int a1, .int a2] [] ph (px_qJ r ph') := by
  unfold f_M_linkOf at h
  refine px_ld rfl rfl rfl rfl rfl ?_
  refine px_ld rfl rfl rfl rfl rfl ?_
  refine px_ld rfl rfl rfl rfl rfl ?_
  refine px_ld rfl rfl rfl rfl rfl ?_
  obtain ⟨fs, h0, h⟩ := xs_some h
  have e1 := xo_some h0
  obtain ⟨t1, ph2, h0, h⟩ := xb_some h
  refine px_cV2 rfl rfl e1 rfl rfl rfl rfl rfl rfl rfl (r_M_row h0 :) (fun _ _ q => nomatch q.2) (fun r ph' q => ?_)
  obtain ⟨rfl, q⟩ := q
  cases q
  refine px_ic (k := 40) rfl rfl rfl ?_
  refine px_alu rfl rfl rfl ?_
  refine px_ic (k := 4) rfl rfl rfl ?_
  obtain ⟨fs, h0, h⟩ := xs_some h
  have e1 := xo_some h0
  obtain ⟨t3, ph4, h0, h⟩ := xb_some h
  refine px_cV2 rfl rfl e1 rfl rfl rfl rfl rfl rfl rfl (r_M_num h0 :) (fun _ _ q => nomatch q.2) (fun r ph' q => ?_)
  obtain ⟨rfl, q⟩ := q
  cases q
  cases h
  exact px_lret rfl rfl rfl ⟨rfl, rfl⟩
def f_M_symbolMany_24 (F : Nat) (s0 : Int32) (ph : px_H) : Option (Int32 × px_H) :=
  some (s0, ph)
theorem r_M_symbolMany_24 {l : Launch} {g : px_G} {d F : Nat} {s0 : Int32} {ph : px_H} {r : Int32} {ph' : px_H} (h : f_M_symbolMany_24 F s0 ph = some (r, ph')) : PW l g (d + 4) m_M_symbolMany 24 [px_u, px_u, px_u] [.int s0] ph (px_qI r ph') := by
  unfold f_M_symbolMany_24 at h
  cases h
  exact px_iret rfl (Or.inl rfl) rfl ⟨rfl, rfl⟩
def f_M_symbolMany (F : Nat) (a0 : Nat) (a1 : Int32) (ph : px_H) : Option (Int32 × px_H) :=
  (xo ph 12 a0).bind fun _ =>
  xb (f_M_symbols F a0 a1 ph) fun t1 ph2 =>
  if t1 = 0 then
    f_M_symbolMany_24 F (nI 0) ph2
  else
    (xo ph2 12 a0).bind fun _ =>
    xb (f_M_size F a0 a1 t1 ph2) fun t3 ph4 =>
    f_M_symbolMany_24 F (t3.toInt32 / (nI 24)) ph4
theorem r_M_symbolMany {l : Launch} {g : px_G} {d F : Nat} {a0 : Nat} {a1 : Int32} {ph : px_H} {r : Int32} {ph' : px_H} (h : f_M_symbolMany F a0 a1 ph = some (r, ph')) : PW l g (d + 4) m_M_symbolMany 0 [.ref a0, .int a1, px_u] [] ph (px_qI r ph') := by
  unfold f_M_symbolMany at h
  refine px_ld rfl rfl rfl rfl rfl ?_
  refine px_ld rfl rfl rfl rfl rfl ?_
  obtain ⟨fs, h0, h⟩ := xs_some h
  have e1 := xo_some h0
  obtain ⟨t1, ph2, h0, h⟩ := xb_some h
  refine px_cV1 rfl rfl e1 rfl rfl rfl rfl rfl rfl rfl (r_M_symbols h0 :) (fun _ _ q => nomatch q.2) (fun r ph' q => ?_)
  obtain ⟨rfl, q⟩ := q
  cases q
  refine px_st (lv' := [_, _, _]) rfl rfl rfl rfl rfl rfl rfl ?_
  refine px_ld rfl rfl rfl rfl rfl ?_
  refine px_ifne rfl rfl rfl (fun hc => ?_) (fun hc => ?_)
  · replace h := (if_neg hc).symm.trans h
    refine px_ld rfl rfl rfl rfl rfl ?_
    refine px_ld rfl rfl rfl rfl rfl ?_
    refine px_ld rfl rfl rfl rfl rfl ?_
    obtain ⟨fs, h0, h⟩ := xs_some h
    have e1 := xo_some h0
    obtain ⟨t3, ph4, h0, h⟩ := xb_some h
    refine px_cV2 rfl rfl e1 rfl rfl rfl rfl rfl rfl rfl (r_M_size h0 :) (fun _ _ q => nomatch q.2) (fun r ph' q => ?_)
    obtain ⟨rfl, q⟩ := q
    cases q
    refine px_alu rfl rfl rfl ?_
    refine px_ic (k := 24) rfl rfl rfl ?_
    refine px_idiv rfl (by decide) rfl ?_
    refine px_forget (n := 0) (lv' := [_, _, _]) rfl ?_
    refine px_forget (n := 1) (lv' := [_, _, _]) rfl ?_
    refine px_forget (n := 2) (lv' := [_, _, _]) rfl ?_
    exact (r_M_symbolMany_24 h :)
  · replace h := (if_pos hc).symm.trans h
    refine px_ic (k := 0) rfl rfl rfl ?_
    refine px_goto rfl rfl rfl ?_
    refine px_forget (n := 0) (lv' := [_, _, _]) rfl ?_
    refine px_forget (n := 1) (lv' := [_, _, _]) rfl ?_
    refine px_forget (n := 2) (lv' := [_, _, _]) rfl ?_
    exact (r_M_symbolMany_24 h :)
def f_M_symbol (F : Nat) (a0 : Nat) (a1 : Int32) (a2 : Int32) (ph : px_H) : Option (Int32 × px_H) :=
  (xo ph 12 a0).bind fun _ =>
  xb (f_M_symbols F a0 a1 ph) fun t1 ph2 =>
  (xo ph2 12 a0).bind fun _ =>
  xb (f_M_beginning F a0 a1 t1 ph2) fun t3 ph4 =>
  some ((a1 + t3.toInt32) + ((nI 24) * a2), ph4)
theorem r_M_symbol {l : Launch} {g : px_G} {d F : Nat} {a0 : Nat} {a1 : Int32} {a2 : Int32} {ph : px_H} {r : Int32} {ph' : px_H} (h : f_M_symbol F a0 a1 a2 ph = some (r, ph')) : PW l g (d + 4) m_M_symbol 0 [.ref a0, .int a1, .int a2] [] ph (px_qI r ph') := by
  unfold f_M_symbol at h
  refine px_ld rfl rfl rfl rfl rfl ?_
  refine px_ld rfl rfl rfl rfl rfl ?_
  refine px_ld rfl rfl rfl rfl rfl ?_
  refine px_ld rfl rfl rfl rfl rfl ?_
  refine px_ld rfl rfl rfl rfl rfl ?_
  obtain ⟨fs, h0, h⟩ := xs_some h
  have e1 := xo_some h0
  obtain ⟨t1, ph2, h0, h⟩ := xb_some h
  refine px_cV1 rfl rfl e1 rfl rfl rfl rfl rfl rfl rfl (r_M_symbols h0 :) (fun _ _ q => nomatch q.2) (fun r ph' q => ?_)
  obtain ⟨rfl, q⟩ := q
  cases q
  obtain ⟨fs, h0, h⟩ := xs_some h
  have e1 := xo_some h0
  obtain ⟨t3, ph4, h0, h⟩ := xb_some h
  refine px_cV2 rfl rfl e1 rfl rfl rfl rfl rfl rfl rfl (r_M_beginning h0 :) (fun _ _ q => nomatch q.2) (fun r ph' q => ?_)
  obtain ⟨rfl, q⟩ := q
  cases q
  refine px_alu rfl rfl rfl ?_
  refine px_alu rfl rfl rfl ?_
  refine px_ic (k := 24) rfl rfl rfl ?_
  refine px_ld rfl rfl rfl rfl rfl ?_
  refine px_alu rfl rfl rfl ?_
  refine px_alu rfl rfl rfl ?_
  cases h
  exact px_iret rfl (Or.inl rfl) rfl ⟨rfl, rfl⟩
def f_M_where (F : Nat) (a0 : Nat) (a1 : Int32) (a2 : Int32) (ph : px_H) : Option (Int32 × px_H) :=
  (xo ph 12 a0).bind fun _ =>
  xb (f_M_symbol F a0 a1 a2 ph) fun t1 ph2 =>
  (xo ph2 12 a0).bind fun _ =>
  xb (f_M_num F a0 (t1 + (nI 6)) (nI 2) ph2) fun t3 ph4 =>
  some (t3.toInt32, ph4)
theorem r_M_where {l : Launch} {g : px_G} {d F : Nat} {a0 : Nat} {a1 : Int32} {a2 : Int32} {ph : px_H} {r : Int32} {ph' : px_H} (h : f_M_where F a0 a1 a2 ph = some (r, ph')) : PW l g (d + 5) m_M_where 0 [.ref a0, .int a1, .int a2] [] ph (px_qI r ph') := by
  unfold f_M_where at h
  refine px_ld rfl rfl rfl rfl rfl ?_
  refine px_ld rfl rfl rfl rfl rfl ?_
  refine px_ld rfl rfl rfl rfl rfl ?_
  refine px_ld rfl rfl rfl rfl rfl ?_
  obtain ⟨fs, h0, h⟩ := xs_some h
  have e1 := xo_some h0
  obtain ⟨t1, ph2, h0, h⟩ := xb_some h
  refine px_cV2 rfl rfl e1 rfl rfl rfl rfl rfl rfl rfl (r_M_symbol h0 :) (fun _ _ q => nomatch q.2) (fun r ph' q => ?_)
  obtain ⟨rfl, q⟩ := q
  cases q
  refine px_ic (k := 6) rfl rfl rfl ?_
  refine px_alu rfl rfl rfl ?_
  refine px_ic (k := 2) rfl rfl rfl ?_
  obtain ⟨fs, h0, h⟩ := xs_some h
  have e1 := xo_some h0
  obtain ⟨t3, ph4, h0, h⟩ := xb_some h
  refine px_cV2 rfl rfl e1 rfl rfl rfl rfl rfl rfl rfl (r_M_num h0 :) (fun _ _ q => nomatch q.2) (fun r ph' q => ?_)
  obtain ⟨rfl, q⟩ := q
  cases q
  refine px_alu rfl rfl rfl ?_
  cases h
  exact px_iret rfl (Or.inl rfl) rfl ⟨rfl, rfl⟩
def f_M_bind (F : Nat) (a0 : Nat) (a1 : Int32) (a2 : Int32) (ph : px_H) : Option (Int32 × px_H) :=
  (xgR ph 12 6 a0).bind fun t1 =>
  (xo ph 12 a0).bind fun _ =>
  xb (f_M_symbol F a0 a1 a2 ph) fun t2 ph3 =>
  (xaI ph3 0 t1 (t2 + (nI 4))).bind fun t4 =>
  some ((t4 >>> ((nI 4) &&& 31)) &&& (nI 15), ph3)
theorem r_M_bind {l : Launch} {g : px_G} {d F : Nat} {a0 : Nat} {a1 : Int32} {a2 : Int32} {ph : px_H} {r : Int32} {ph' : px_H} (h : f_M_bind F a0 a1 a2 ph = some (r, ph')) : PW l g (d + 5) m_M_bind 0 [.ref a0, .int a1, .int a2] [] ph (px_qI r ph') := by
  unfold f_M_bind at h
  refine px_ld rfl rfl rfl rfl rfl ?_
  obtain ⟨t1, h0, h⟩ := xs_some h
  obtain ⟨fs, e1, e2⟩ := xgR_some h0
  refine px_get rfl e1 e2 rfl ?_
  refine px_ld rfl rfl rfl rfl rfl ?_
  refine px_ld rfl rfl rfl rfl rfl ?_
  refine px_ld rfl rfl rfl rfl rfl ?_
  obtain ⟨fs, h0, h⟩ := xs_some h
  have e1 := xo_some h0
  obtain ⟨t2, ph3, h0, h⟩ := xb_some h
  refine px_cV2 rfl rfl e1 rfl rfl rfl rfl rfl rfl rfl (r_M_symbol h0 :) (fun _ _ q => nomatch q.2) (fun r ph' q => ?_)
  obtain ⟨rfl, q⟩ := q
  cases q
  refine px_ic (k := 4) rfl rfl rfl ?_
  refine px_alu rfl rfl rfl ?_
  obtain ⟨t4, h0, h⟩ := xs_some h
  obtain ⟨N, f, e1, e2, e3⟩ := xaI_some h0
  subst e3
  refine px_bald rfl e1 rfl e2 rfl ?_
  refine px_ic (k := 4) rfl rfl rfl ?_
  refine px_alu rfl rfl rfl ?_
  refine px_ic (k := 15) rfl rfl rfl ?_
  refine px_alu rfl rfl rfl ?_
  cases h
  exact px_iret rfl (Or.inl rfl) rfl ⟨rfl, rfl⟩
def f_M_isName_114 (F : Nat) (s0 : Int32) (ph : px_H) : Option (Int32 × px_H) :=
  xz s0 ph
theorem r_M_isName_114 {l : Launch} {g : px_G} {d F : Nat} {s0 : Int32} {ph : px_H} {r : Int32} {ph' : px_H} (h : f_M_isName_114 F s0 ph = some (r, ph')) : PW l g (d + 5) m_M_isName 114 [px_u, px_u, px_u, px_u, px_u, px_u, px_u, px_u, px_u] [.int s0] ph (px_qI r ph') := by
  unfold f_M_isName_114 at h
  obtain ⟨e0, e1, e2⟩ := xz_some h
  subst e1 e2
  exact px_iret rfl (Or.inr ⟨rfl, e0⟩) rfl ⟨rfl, rfl⟩
def f_M_isName_113 (F : Nat) (ph : px_H) : Option (Int32 × px_H) :=
  f_M_isName_114 F (nI 0) ph
theorem r_M_isName_113 {l : Launch} {g : px_G} {d F : Nat} {ph : px_H} {r : Int32} {ph' : px_H} (h : f_M_isName_113 F ph = some (r, ph')) : PW l g (d + 5) m_M_isName 113 [px_u, px_u, px_u, px_u, px_u, px_u, px_u, px_u, px_u] [] ph (px_qI r ph') := by
  unfold f_M_isName_113 at h
  refine px_ic (k := 0) rfl rfl rfl ?_
  exact (r_M_isName_114 h :)
def f_M_isName_85 (F : Nat) (a4 : Int64) (a6 : Int64) (a8 : Int32) (ph : px_H) : Option (Int32 × px_H) :=
  if a6 ≤ (a4 + a8.toInt64) then
    f_M_isName_113 F ph
  else
    if a8 ≤ 0 then
      f_M_isName_113 F ph
    else
      if (nI 20) < a8 then
        f_M_isName_113 F ph
      else
        f_M_isName_114 F (nI 1) ph
theorem r_M_isName_85 {l : Launch} {g : px_G} {d F : Nat} {a4 : Int64} {a6 : Int64} {a8 : Int32} {ph : px_H} {r : Int32} {ph' : px_H} (h : f_M_isName_85 F a4 a6 a8 ph = some (r, ph')) : PW l g (d + 5) m_M_isName 85 [px_u, px_u, px_u, px_u, .long a4, px_u, .long a6, px_u, .int a8] [] ph (px_qI r ph') := by
  unfold f_M_isName_85 at h
  refine px_ld rfl rfl rfl rfl rfl ?_
  refine px_ld rfl rfl rfl rfl rfl ?_
  refine px_alu rfl rfl rfl ?_
  refine px_alu rfl rfl rfl ?_
  refine px_ld rfl rfl rfl rfl rfl ?_
  refine px_alu rfl rfl rfl ?_
  refine px_ifge rfl (by decide) rfl (fun hc => ?_) (fun hc => ?_)
  · replace h := (if_pos ((lg_cmp_ge _ _).mp hc)).symm.trans h
    refine px_forget (n := 4) (lv' := [_, _, _, _, _, _, _, _, _]) rfl ?_
    refine px_forget (n := 6) (lv' := [_, _, _, _, _, _, _, _, _]) rfl ?_
    refine px_forget (n := 8) (lv' := [_, _, _, _, _, _, _, _, _]) rfl ?_
    exact (r_M_isName_113 h :)
  · replace h := (if_neg (fun q => hc ((lg_cmp_ge _ _).mpr q))).symm.trans h
    refine px_ld rfl rfl rfl rfl rfl ?_
    refine px_ifle rfl (by decide) rfl (fun hc => ?_) (fun hc => ?_)
    · replace h := (if_pos hc).symm.trans h
      refine px_forget (n := 4) (lv' := [_, _, _, _, _, _, _, _, _]) rfl ?_
      refine px_forget (n := 6) (lv' := [_, _, _, _, _, _, _, _, _]) rfl ?_
      refine px_forget (n := 8) (lv' := [_, _, _, _, _, _, _, _, _]) rfl ?_
      exact (r_M_isName_113 h :)
    · replace h := (if_neg hc).symm.trans h
      refine px_ld rfl rfl rfl rfl rfl ?_
      refine px_ic (k := 20) rfl rfl rfl ?_
      refine px_icgt rfl (by decide) rfl (fun hc => ?_) (fun hc => ?_)
      · replace h := (if_pos hc).symm.trans h
        refine px_forget (n := 4) (lv' := [_, _, _, _, _, _, _, _, _]) rfl ?_
        refine px_forget (n := 6) (lv' := [_, _, _, _, _, _, _, _, _]) rfl ?_
        refine px_forget (n := 8) (lv' := [_, _, _, _, _, _, _, _, _]) rfl ?_
        exact (r_M_isName_113 h :)
      · replace h := (if_neg hc).symm.trans h
        refine px_ic (k := 1) rfl rfl rfl ?_
        refine px_goto rfl (by decide) rfl ?_
        refine px_forget (n := 4) (lv' := [_, _, _, _, _, _, _, _, _]) rfl ?_
        refine px_forget (n := 6) (lv' := [_, _, _, _, _, _, _, _, _]) rfl ?_
        refine px_forget (n := 8) (lv' := [_, _, _, _, _, _, _, _, _]) rfl ?_
        exact (r_M_isName_114 h :)
def f_M_isName_36 (F : Nat) : Nat → Nat → Int32 → Int32 → Int64 → Int64 → Int32 → px_H → Option (Int32 × px_H)
  | 0, _, _, _, _, _, _, _ => none
  | n + 1, a0, a1, a3, a4, a6, a8, ph =>
    if a6 ≤ (a4 + a8.toInt64) then
      f_M_isName_85 F a4 a6 a8 ph
    else
      if (nI 20) < a8 then
        f_M_isName_85 F a4 a6 a8 ph
      else
        (xgR ph 12 6 a0).bind fun t1 =>
        (xo ph 12 a0).bind fun _ =>
        xb (f_M_beginning F a0 a1 a3 ph) fun t2 ph3 =>
        (xaI ph3 0 t1 (((a1 + t2.toInt32) + a4.toInt32) + a8)).bind fun t4 =>
        if t4 = 0 then
          f_M_isName_85 F a4 a6 a8 ph3
        else
          f_M_isName_36 F n a0 a1 a3 a4 a6 (a8 + nI 1) ph3
theorem r_M_isName_36 {l : Launch} {g : px_G} {d F : Nat} : ∀ (n : Nat) {a0 : Nat} {a1 : Int32} {a3 : Int32} {a4 : Int64} {a6 : Int64} {a8 : Int32} {ph : px_H} {r : Int32} {ph' : px_H}, f_M_isName_36 F n a0 a1 a3 a4 a6 a8 ph = some (r, ph') → PW l g (d + 5) m_M_isName 36 [.ref a0, .int a1, px_u, .int a3, .long a4, px_u, .long a6, px_u, .int a8] [] ph (px_qI r ph') := by
  intro n
  induction n with
  | zero => intro _ _ _ _ _ _ _ _ _ h; cases h
  | succ n ih =>
    intro a0 a1 a3 a4 a6 a8 ph r ph' h
    unfold f_M_isName_36 at h
    refine px_ld rfl rfl rfl rfl rfl ?_
    refine px_ld rfl rfl rfl rfl rfl ?_
    refine px_alu rfl rfl rfl ?_
    refine px_alu rfl rfl rfl ?_
    refine px_ld rfl rfl rfl rfl rfl ?_
    refine px_alu rfl rfl rfl ?_
    refine px_ifge rfl (by decide) rfl (fun hc => ?_) (fun hc => ?_)
    · replace h := (if_pos ((lg_cmp_ge _ _).mp hc)).symm.trans h
      refine px_forget (n := 0) (lv' := [_, _, _, _, _, _, _, _, _]) rfl ?_
      refine px_forget (n := 1) (lv' := [_, _, _, _, _, _, _, _, _]) rfl ?_
      refine px_forget (n := 3) (lv' := [_, _, _, _, _, _, _, _, _]) rfl ?_
      exact (r_M_isName_85 h :)
    · replace h := (if_neg (fun q => hc ((lg_cmp_ge _ _).mpr q))).symm.trans h
      refine px_ld rfl rfl rfl rfl rfl ?_
      refine px_ic (k := 20) rfl rfl rfl ?_
      refine px_icgt rfl (by decide) rfl (fun hc => ?_) (fun hc => ?_)
      · replace h := (if_pos hc).symm.trans h
        refine px_forget (n := 0) (lv' := [_, _, _, _, _, _, _, _, _]) rfl ?_
        refine px_forget (n := 1) (lv' := [_, _, _, _, _, _, _, _, _]) rfl ?_
        refine px_forget (n := 3) (lv' := [_, _, _, _, _, _, _, _, _]) rfl ?_
        exact (r_M_isName_85 h :)
      · replace h := (if_neg hc).symm.trans h
        refine px_ld rfl rfl rfl rfl rfl ?_
        obtain ⟨t1, h0, h⟩ := xs_some h
        obtain ⟨fs, e1, e2⟩ := xgR_some h0
        refine px_get rfl e1 e2 rfl ?_
        refine px_ld rfl rfl rfl rfl rfl ?_
        refine px_ld rfl rfl rfl rfl rfl ?_
        refine px_ld rfl rfl rfl rfl rfl ?_
        refine px_ld rfl rfl rfl rfl rfl ?_
        obtain ⟨fs, h0, h⟩ := xs_some h
        have e1 := xo_some h0
        obtain ⟨t2, ph3, h0, h⟩ := xb_some h
        refine px_cV2 rfl rfl e1 rfl rfl rfl rfl rfl rfl rfl (r_M_beginning h0 :) (fun _ _ q => nomatch q.2) (fun r ph' q => ?_)
        obtain ⟨rfl, q⟩ := q
        cases q
        refine px_alu rfl rfl rfl ?_
        refine px_alu rfl rfl rfl ?_
        refine px_ld rfl rfl rfl rfl rfl ?_
        refine px_alu rfl rfl rfl ?_
        refine px_alu rfl rfl rfl ?_
        refine px_ld rfl rfl rfl rfl rfl ?_
        refine px_alu rfl rfl rfl ?_
        obtain ⟨t4, h0, h⟩ := xs_some h
        obtain ⟨N, f, e1, e2, e3⟩ := xaI_some h0
        subst e3
        refine px_bald rfl e1 rfl e2 rfl ?_
        refine px_ifeq rfl (by decide) rfl (fun hc => ?_) (fun hc => ?_)
        · replace h := (if_pos hc).symm.trans h
          refine px_forget (n := 0) (lv' := [_, _, _, _, _, _, _, _, _]) rfl ?_
          refine px_forget (n := 1) (lv' := [_, _, _, _, _, _, _, _, _]) rfl ?_
          refine px_forget (n := 3) (lv' := [_, _, _, _, _, _, _, _, _]) rfl ?_
          exact (r_M_isName_85 h :)
        · replace h := (if_neg hc).symm.trans h
          refine px_iinc (lv' := [_, _, _, _, _, _, _, _, _]) rfl rfl rfl rfl rfl rfl ?_
          refine px_goto rfl (by decide) rfl ?_
          exact (ih h :)
def f_M_isName (F : Nat) (a0 : Nat) (a1 : Int32) (a2 : Int32) (ph : px_H) : Option (Int32 × px_H) :=
  (xo ph 12 a0).bind fun _ =>
  xb (f_M_symbols F a0 a1 ph) fun t1 ph2 =>
  (xo ph2 12 a0).bind fun _ =>
  xb (f_M_linkOf F a0 a1 t1 ph2) fun t3 ph4 =>
  (xo ph4 12 a0).bind fun _ =>
  xb (f_M_symbol F a0 a1 a2 ph4) fun t5 ph6 =>
  (xo ph6 12 a0).bind fun _ =>
  xb (f_M_num F a0 t5 (nI 4) ph6) fun t7 ph8 =>
  (xo ph8 12 a0).bind fun _ =>
  xb (f_M_size F a0 a1 t3.toInt32 ph8) fun t9 ph10 =>
  f_M_isName_36 F F a0 a1 t3.toInt32 t7 t9 (nI 0) ph10
theorem r_M_isName {l : Launch} {g : px_G} {d F : Nat} {a0 : Nat} {a1 : Int32} {a2 : Int32} {ph : px_H} {r : Int32} {ph' : px_H} (h : f_M_isName F a0 a1 a2 ph = some (r, ph')) : PW l g (d + 5) m_M_isName 0 [.ref a0, .int a1, .int a2, px_u, px_u, px_u, px_u, px_u, px_u] [] ph (px_qI r ph') := by
  unfold f_M_isName at h
  refine px_ld rfl rfl rfl rfl rfl ?_
  refine px_ld rfl rfl rfl rfl rfl ?_
  refine px_ld rfl rfl rfl rfl rfl ?_
  refine px_ld rfl rfl rfl rfl rfl ?_
  obtain ⟨fs, h0, h⟩ := xs_some h
  have e1 := xo_some h0
  obtain ⟨t1, ph2, h0, h⟩ := xb_some h
  refine px_cV1 rfl rfl e1 rfl rfl rfl rfl rfl rfl rfl (r_M_symbols h0 :) (fun _ _ q => nomatch q.2) (fun r ph' q => ?_)
  obtain ⟨rfl, q⟩ := q
  cases q
  obtain ⟨fs, h0, h⟩ := xs_some h
  have e1 := xo_some h0
  obtain ⟨t3, ph4, h0, h⟩ := xb_some h
  refine px_cV2 rfl rfl e1 rfl rfl rfl rfl rfl rfl rfl (r_M_linkOf h0 :) (fun _ _ q => nomatch q.2) (fun r ph' q => ?_)
  obtain ⟨rfl, q⟩ := q
  cases q
  refine px_alu rfl rfl rfl ?_
  refine px_st (lv' := [_, _, _, _, _, _, _, _, _]) rfl rfl rfl rfl rfl rfl rfl ?_
  refine px_ld rfl rfl rfl rfl rfl ?_
  refine px_ld rfl rfl rfl rfl rfl ?_
  refine px_ld rfl rfl rfl rfl rfl ?_
  refine px_ld rfl rfl rfl rfl rfl ?_
  obtain ⟨fs, h0, h⟩ := xs_some h
  have e1 := xo_some h0
  obtain ⟨t5, ph6, h0, h⟩ := xb_some h
  refine px_cV2 rfl rfl e1 rfl rfl rfl rfl rfl rfl rfl (r_M_symbol h0 :) (fun _ _ q => nomatch q.2) (fun r ph' q => ?_)
  obtain ⟨rfl, q⟩ := q
  cases q
  refine px_ic (k := 4) rfl rfl rfl ?_
  obtain ⟨fs, h0, h⟩ := xs_some h
  have e1 := xo_some h0
  obtain ⟨t7, ph8, h0, h⟩ := xb_some h
  refine px_cV2 rfl rfl e1 rfl rfl rfl rfl rfl rfl rfl (r_M_num h0 :) (fun _ _ q => nomatch q.2) (fun r ph' q => ?_)
  obtain ⟨rfl, q⟩ := q
  cases q
  refine px_st (lv' := [_, _, _, _, _, _, _, _, _]) rfl rfl rfl rfl rfl rfl rfl ?_
  refine px_ld rfl rfl rfl rfl rfl ?_
  refine px_ld rfl rfl rfl rfl rfl ?_
  refine px_ld rfl rfl rfl rfl rfl ?_
  obtain ⟨fs, h0, h⟩ := xs_some h
  have e1 := xo_some h0
  obtain ⟨t9, ph10, h0, h⟩ := xb_some h
  refine px_cV2 rfl rfl e1 rfl rfl rfl rfl rfl rfl rfl (r_M_size h0 :) (fun _ _ q => nomatch q.2) (fun r ph' q => ?_)
  obtain ⟨rfl, q⟩ := q
  cases q
  refine px_st (lv' := [_, _, _, _, _, _, _, _, _]) rfl rfl rfl rfl rfl rfl rfl ?_
  refine px_ic (k := 0) rfl rfl rfl ?_
  refine px_st (lv' := [_, _, _, _, _, _, _, _, _]) rfl rfl rfl rfl rfl rfl rfl ?_
  refine px_forget (n := 2) (lv' := [_, _, _, _, _, _, _, _, _]) rfl ?_
  exact (r_M_isName_36 _ h :)
def f_M_value (F : Nat) (a0 : Nat) (a1 : Int32) (a2 : Int32) (ph : px_H) : Option (Int64 × px_H) :=
  (xo ph 12 a0).bind fun _ =>
  xb (f_M_symbol F a0 a1 a2 ph) fun t1 ph2 =>
  (xo ph2 12 a0).bind fun _ =>
  xb (f_M_num F a0 (t1 + (nI 8)) (nI 8) ph2) fun t3 ph4 =>
  some (t3, ph4)
theorem r_M_value {l : Launch} {g : px_G} {d F : Nat} {a0 : Nat} {a1 : Int32} {a2 : Int32} {ph : px_H} {r : Int64} {ph' : px_H} (h : f_M_value F a0 a1 a2 ph = some (r, ph')) : PW l g (d + 5) m_M_value 0 [.ref a0, .int a1, .int a2] [] ph (px_qJ r ph') := by
  unfold f_M_value at h
  refine px_ld rfl rfl rfl rfl rfl ?_
  refine px_ld rfl rfl rfl rfl rfl ?_
  refine px_ld rfl rfl rfl rfl rfl ?_
  refine px_ld rfl rfl rfl rfl rfl ?_
  obtain ⟨fs, h0, h⟩ := xs_some h
  have e1 := xo_some h0
  obtain ⟨t1, ph2, h0, h⟩ := xb_some h
  refine px_cV2 rfl rfl e1 rfl rfl rfl rfl rfl rfl rfl (r_M_symbol h0 :) (fun _ _ q => nomatch q.2) (fun r ph' q => ?_)
  obtain ⟨rfl, q⟩ := q
  cases q
  refine px_ic (k := 8) rfl rfl rfl ?_
  refine px_alu rfl rfl rfl ?_
  refine px_ic (k := 8) rfl rfl rfl ?_
  obtain ⟨fs, h0, h⟩ := xs_some h
  have e1 := xo_some h0
  obtain ⟨t3, ph4, h0, h⟩ := xb_some h
  refine px_cV2 rfl rfl e1 rfl rfl rfl rfl rfl rfl rfl (r_M_num h0 :) (fun _ _ q => nomatch q.2) (fun r ph' q => ?_)
  obtain ⟨rfl, q⟩ := q
  cases q
  cases h
  exact px_lret rfl rfl rfl ⟨rfl, rfl⟩
def f_M_symbolSize (F : Nat) (a0 : Nat) (a1 : Int32) (a2 : Int32) (ph : px_H) : Option (Int64 × px_H) :=
  (xo ph 12 a0).bind fun _ =>
  xb (f_M_symbol F a0 a1 a2 ph) fun t1 ph2 =>
  (xo ph2 12 a0).bind fun _ =>
  xb (f_M_num F a0 (t1 + (nI 16)) (nI 8) ph2) fun t3 ph4 =>
  some (t3, ph4)
theorem r_M_symbolSize {l : Launch} {g : px_G} {d F : Nat} {a0 : Nat} {a1 : Int32} {a2 : Int32} {ph : px_H} {r : Int64} {ph' : px_H} (h : f_M_symbolSize F a0 a1 a2 ph = some (r, ph')) : PW l g (d + 5) m_M_symbolSize 0 [.ref a0, .int a1, .int a2] [] ph (px_qJ r ph') := by
  unfold f_M_symbolSize at h
  refine px_ld rfl rfl rfl rfl rfl ?_
  refine px_ld rfl rfl rfl rfl rfl ?_
  refine px_ld rfl rfl rfl rfl rfl ?_
  refine px_ld rfl rfl rfl rfl rfl ?_
  obtain ⟨fs, h0, h⟩ := xs_some h
  have e1 := xo_some h0
  obtain ⟨t1, ph2, h0, h⟩ := xb_some h
  refine px_cV2 rfl rfl e1 rfl rfl rfl rfl rfl rfl rfl (r_M_symbol h0 :) (fun _ _ q => nomatch q.2) (fun r ph' q => ?_)
  obtain ⟨rfl, q⟩ := q
  cases q
  refine px_ic (k := 16) rfl rfl rfl ?_
  refine px_alu rfl rfl rfl ?_
  refine px_ic (k := 8) rfl rfl rfl ?_
  obtain ⟨fs, h0, h⟩ := xs_some h
  have e1 := xo_some h0
  obtain ⟨t3, ph4, h0, h⟩ := xb_some h
  refine px_cV2 rfl rfl e1 rfl rfl rfl rfl rfl rfl rfl (r_M_num h0 :) (fun _ _ q => nomatch q.2) (fun r ph' q => ?_)
  obtain ⟨rfl, q⟩ := q
  cases q
  cases h
  exact px_lret rfl rfl rfl ⟨rfl, rfl⟩
def f_M_isSymbol_157 (F : Nat) (s0 : Int32) (ph : px_H) : Option (Int32 × px_H) :=
  xz s0 ph
theorem r_M_isSymbol_157 {l : Launch} {g : px_G} {d F : Nat} {s0 : Int32} {ph : px_H} {r : Int32} {ph' : px_H} (h : f_M_isSymbol_157 F s0 ph = some (r, ph')) : PW l g (d + 6) m_M_isSymbol 157 [px_u, px_u, px_u, px_u, px_u, px_u] [.int s0] ph (px_qI r ph') := by
  unfold f_M_isSymbol_157 at h
  obtain ⟨e0, e1, e2⟩ := xz_some h
  subst e1 e2
  exact px_iret rfl (Or.inr ⟨rfl, e0⟩) rfl ⟨rfl, rfl⟩
def f_M_isSymbol_156 (F : Nat) (ph : px_H) : Option (Int32 × px_H) :=
  f_M_isSymbol_157 F (nI 0) ph
theorem r_M_isSymbol_156 {l : Launch} {g : px_G} {d F : Nat} {ph : px_H} {r : Int32} {ph' : px_H} (h : f_M_isSymbol_156 F ph = some (r, ph')) : PW l g (d + 6) m_M_isSymbol 156 [px_u, px_u, px_u, px_u, px_u, px_u] [] ph (px_qI r ph') := by
  unfold f_M_isSymbol_156 at h
  refine px_ic (k := 0) rfl rfl rfl ?_
  exact (r_M_isSymbol_157 h :)
def f_M_isSymbol_152 (F : Nat) (ph : px_H) : Option (Int32 × px_H) :=
  f_M_isSymbol_157 F (nI 1) ph
theorem r_M_isSymbol_152 {l : Launch} {g : px_G} {d F : Nat} {ph : px_H} {r : Int32} {ph' : px_H} (h : f_M_isSymbol_152 F ph = some (r, ph')) : PW l g (d + 6) m_M_isSymbol 152 [px_u, px_u, px_u, px_u, px_u, px_u] [] ph (px_qI r ph') := by
  unfold f_M_isSymbol_152 at h
  refine px_ic (k := 1) rfl rfl rfl ?_
  refine px_goto rfl (by decide) rfl ?_
  exact (r_M_isSymbol_157 h :)
def f_M_isSymbol_107 (F : Nat) (ph : px_H) : Option (Int32 × px_H) :=
  some (nI 0, ph)
theorem r_M_isSymbol_107 {l : Launch} {g : px_G} {d F : Nat} {ph : px_H} {r : Int32} {ph' : px_H} (h : f_M_isSymbol_107 F ph = some (r, ph')) : PW l g (d + 6) m_M_isSymbol 107 [px_u, px_u, px_u, px_u, px_u, px_u] [] ph (px_qI r ph') := by
  unfold f_M_isSymbol_107 at h
  refine px_ic (k := 0) rfl rfl rfl ?_
  cases h
  exact px_iret rfl (Or.inr ⟨rfl, Or.inl rfl⟩) rfl ⟨rfl, rfl⟩
def f_M_isSymbol_98 (F : Nat) (a0 : Nat) (a1 : Int32) (a2 : Int32) (a3 : Int32) (ph : px_H) : Option (Int32 × px_H) :=
  (xo ph 12 a0).bind fun _ =>
  xb (f_M_isName F a0 a1 a2 ph) fun t1 ph2 =>
  if t1 = 0 then
    f_M_isSymbol_107 F ph2
  else
    if a3 = ((65522 : Int32)) then
      (xo ph2 12 a0).bind fun _ =>
      xb (f_M_value F a0 a1 a2 ph2) fun t3 ph4 =>
      xb (f_M_isPower F t3 ph4) fun t5 ph6 =>
      if t5 = 0 then
        f_M_isSymbol_156 F ph6
      else
        (xo ph6 12 a0).bind fun _ =>
        xb (f_M_symbolSize F a0 a1 a2 ph6) fun t7 ph8 =>
        if t7 < (lN 0) then
          f_M_isSymbol_156 F ph8
        else
          (xo ph8 12 a0).bind fun _ =>
          xb (f_M_symbolSize F a0 a1 a2 ph8) fun t9 ph10 =>
          if ((16384 : Int64)) < t9 then
            f_M_isSymbol_156 F ph10
          else
            f_M_isSymbol_152 F ph10
    else
      f_M_isSymbol_152 F ph2
theorem r_M_isSymbol_98 {l : Launch} {g : px_G} {d F : Nat} {a0 : Nat} {a1 : Int32} {a2 : Int32} {a3 : Int32} {ph : px_H} {r : Int32} {ph' : px_H} (h : f_M_isSymbol_98 F a0 a1 a2 a3 ph = some (r, ph')) : PW l g (d + 6) m_M_isSymbol 98 [.ref a0, .int a1, .int a2, .int a3, px_u, px_u] [] ph (px_qI r ph') := by
  unfold f_M_isSymbol_98 at h
  refine px_ld rfl rfl rfl rfl rfl ?_
  refine px_ld rfl rfl rfl rfl rfl ?_
  refine px_ld rfl rfl rfl rfl rfl ?_
  obtain ⟨fs, h0, h⟩ := xs_some h
  have e1 := xo_some h0
  obtain ⟨t1, ph2, h0, h⟩ := xb_some h
  refine px_cV2 rfl rfl e1 rfl rfl rfl rfl rfl rfl rfl (r_M_isName h0 :) (fun _ _ q => nomatch q.2) (fun r ph' q => ?_)
  obtain ⟨rfl, q⟩ := q
  cases q
  refine px_ifne rfl (by decide) rfl (fun hc => ?_) (fun hc => ?_)
  · replace h := (if_neg hc).symm.trans h
    refine px_ld rfl rfl rfl rfl rfl ?_
    refine px_ldcw rfl (by decide) rfl rfl ?_
    refine px_icne rfl (by decide) rfl (fun hc => ?_) (fun hc => ?_)
    · replace h := (if_neg hc).symm.trans h
      refine px_forget (n := 0) (lv' := [_, _, _, _, _, _]) rfl ?_
      refine px_forget (n := 1) (lv' := [_, _, _, _, _, _]) rfl ?_
      refine px_forget (n := 2) (lv' := [_, _, _, _, _, _]) rfl ?_
      refine px_forget (n := 3) (lv' := [_, _, _, _, _, _]) rfl ?_
      exact (r_M_isSymbol_152 h :)
    · replace h := (if_pos hc).symm.trans h
      refine px_ld rfl rfl rfl rfl rfl ?_
      refine px_ld rfl rfl rfl rfl rfl ?_
      refine px_ld rfl rfl rfl rfl rfl ?_
      obtain ⟨fs, h0, h⟩ := xs_some h
      have e1 := xo_some h0
      obtain ⟨t3, ph4, h0, h⟩ := xb_some h
      refine px_cV2 rfl rfl e1 rfl rfl rfl rfl rfl rfl rfl (r_M_value h0 :) (fun _ _ q => nomatch q.2) (fun r ph' q => ?_)
      obtain ⟨rfl, q⟩ := q
      cases q
      obtain ⟨t5, ph6, h0, h⟩ := xb_some h
      refine px_cS1 rfl rfl rfl rfl rfl rfl rfl (r_M_isPower h0 :) (fun _ _ q => nomatch q.2) (fun r ph' q => ?_)
      obtain ⟨rfl, q⟩ := q
      cases q
      refine px_ifeq rfl (by decide) rfl (fun hc => ?_) (fun hc => ?_)
      · replace h := (if_pos hc).symm.trans h
        refine px_forget (n := 0) (lv' := [_, _, _, _, _, _]) rfl ?_
        refine px_forget (n := 1) (lv' := [_, _, _, _, _, _]) rfl ?_
        refine px_forget (n := 2) (lv' := [_, _, _, _, _, _]) rfl ?_
        refine px_forget (n := 3) (lv' := [_, _, _, _, _, _]) rfl ?_
        exact (r_M_isSymbol_156 h :)
      · replace h := (if_neg hc).symm.trans h
        refine px_ld rfl rfl rfl rfl rfl ?_
        refine px_ld rfl rfl rfl rfl rfl ?_
        refine px_ld rfl rfl rfl rfl rfl ?_
        obtain ⟨fs, h0, h⟩ := xs_some h
        have e1 := xo_some h0
        obtain ⟨t7, ph8, h0, h⟩ := xb_some h
        refine px_cV2 rfl rfl e1 rfl rfl rfl rfl rfl rfl rfl (r_M_symbolSize h0 :) (fun _ _ q => nomatch q.2) (fun r ph' q => ?_)
        obtain ⟨rfl, q⟩ := q
        cases q
        refine px_alu rfl rfl rfl ?_
        refine px_alu rfl rfl rfl ?_
        refine px_iflt rfl (by decide) rfl (fun hc => ?_) (fun hc => ?_)
        · replace h := (if_pos ((lg_cmp_lt _ _).mp hc)).symm.trans h
          refine px_forget (n := 0) (lv' := [_, _, _, _, _, _]) rfl ?_
          refine px_forget (n := 1) (lv' := [_, _, _, _, _, _]) rfl ?_
          refine px_forget (n := 2) (lv' := [_, _, _, _, _, _]) rfl ?_
          refine px_forget (n := 3) (lv' := [_, _, _, _, _, _]) rfl ?_
          exact (r_M_isSymbol_156 h :)
        · replace h := (if_neg (fun q => hc ((lg_cmp_lt _ _).mpr q))).symm.trans h
          refine px_ld rfl rfl rfl rfl rfl ?_
          refine px_ld rfl rfl rfl rfl rfl ?_
          refine px_ld rfl rfl rfl rfl rfl ?_
          obtain ⟨fs, h0, h⟩ := xs_some h
          have e1 := xo_some h0
          obtain ⟨t9, ph10, h0, h⟩ := xb_some h
          refine px_cV2 rfl rfl e1 rfl rfl rfl rfl rfl rfl rfl (r_M_symbolSize h0 :) (fun _ _ q => nomatch q.2) (fun r ph' q => ?_)
          obtain ⟨rfl, q⟩ := q
          cases q
          refine px_ldc2 rfl rfl rfl ?_
          refine px_alu rfl rfl rfl ?_
          refine px_ifgt rfl (by decide) rfl (fun hc => ?_) (fun hc => ?_)
          · replace h := (if_pos ((lg_cmp_gt _ _).mp hc)).symm.trans h
            refine px_forget (n := 0) (lv' := [_, _, _, _, _, _]) rfl ?_
            refine px_forget (n := 1) (lv' := [_, _, _, _, _, _]) rfl ?_
            refine px_forget (n := 2) (lv' := [_, _, _, _, _, _]) rfl ?_
            refine px_forget (n := 3) (lv' := [_, _, _, _, _, _]) rfl ?_
            exact (r_M_isSymbol_156 h :)
          · replace h := (if_neg (fun q => hc ((lg_cmp_gt _ _).mpr q))).symm.trans h
            refine px_forget (n := 0) (lv' := [_, _, _, _, _, _]) rfl ?_
            refine px_forget (n := 1) (lv' := [_, _, _, _, _, _]) rfl ?_
            refine px_forget (n := 2) (lv' := [_, _, _, _, _, _]) rfl ?_
            refine px_forget (n := 3) (lv' := [_, _, _, _, _, _]) rfl ?_
            exact (r_M_isSymbol_152 h :)
  · replace h := (if_pos hc).symm.trans h
    refine px_forget (n := 0) (lv' := [_, _, _, _, _, _]) rfl ?_
    refine px_forget (n := 1) (lv' := [_, _, _, _, _, _]) rfl ?_
    refine px_forget (n := 2) (lv' := [_, _, _, _, _, _]) rfl ?_
    refine px_forget (n := 3) (lv' := [_, _, _, _, _, _]) rfl ?_
    exact (r_M_isSymbol_107 h :)
def f_M_isSymbol_83 (F : Nat) (s0 : Int32) (ph : px_H) : Option (Int32 × px_H) :=
  xz s0 ph
theorem r_M_isSymbol_83 {l : Launch} {g : px_G} {d F : Nat} {s0 : Int32} {ph : px_H} {r : Int32} {ph' : px_H} (h : f_M_isSymbol_83 F s0 ph = some (r, ph')) : PW l g (d + 6) m_M_isSymbol 83 [px_u, px_u, px_u, px_u, px_u, px_u] [.int s0] ph (px_qI r ph') := by
  unfold f_M_isSymbol_83 at h
  obtain ⟨e0, e1, e2⟩ := xz_some h
  subst e1 e2
  exact px_iret rfl (Or.inr ⟨rfl, e0⟩) rfl ⟨rfl, rfl⟩
def f_M_isSymbol_66 (F : Nat) (a0 : Nat) (a1 : Int32) (a2 : Int32) (a3 : Int32) (a4 : Int32) (a5 : Int32) (ph : px_H) : Option (Int32 × px_H) :=
  if a4 = 0 then
    if a3 = ((65522 : Int32)) then
      f_M_isSymbol_83 F (nI 0) ph
    else
      f_M_isSymbol_83 F (nI 1) ph
  else
    if a5 = 0 then
      f_M_isSymbol_98 F a0 a1 a2 a3 ph
    else
      (xo ph 12 a0).bind fun _ =>
      xb (f_M_isKept F a0 a1 a3 ph) fun t1 ph2 =>
      if t1 = 0 then
        f_M_isSymbol_107 F ph2
      else
        f_M_isSymbol_98 F a0 a1 a2 a3 ph2
theorem r_M_isSymbol_66 {l : Launch} {g : px_G} {d F : Nat} {a0 : Nat} {a1 : Int32} {a2 : Int32} {a3 : Int32} {a4 : Int32} {a5 : Int32} {ph : px_H} {r : Int32} {ph' : px_H} (h : f_M_isSymbol_66 F a0 a1 a2 a3 a4 a5 ph = some (r, ph')) : PW l g (d + 6) m_M_isSymbol 66 [.ref a0, .int a1, .int a2, .int a3, .int a4, .int a5] [] ph (px_qI r ph') := by
  unfold f_M_isSymbol_66 at h
  refine px_ld rfl rfl rfl rfl rfl ?_
  refine px_ifne rfl (by decide) rfl (fun hc => ?_) (fun hc => ?_)
  · replace h := (if_neg hc).symm.trans h
    refine px_ld rfl rfl rfl rfl rfl ?_
    refine px_ifeq rfl (by decide) rfl (fun hc => ?_) (fun hc => ?_)
    · replace h := (if_pos hc).symm.trans h
      refine px_forget (n := 4) (lv' := [_, _, _, _, _, _]) rfl ?_
      refine px_forget (n := 5) (lv' := [_, _, _, _, _, _]) rfl ?_
      exact (r_M_isSymbol_98 h :)
    · replace h := (if_neg hc).symm.trans h
      refine px_ld rfl rfl rfl rfl rfl ?_
      refine px_ld rfl rfl rfl rfl rfl ?_
      refine px_ld rfl rfl rfl rfl rfl ?_
      obtain ⟨fs, h0, h⟩ := xs_some h
      have e1 := xo_some h0
      obtain ⟨t1, ph2, h0, h⟩ := xb_some h
      refine px_cV2 rfl rfl e1 rfl rfl rfl rfl rfl rfl rfl (r_M_isKept h0 :) (fun _ _ q => nomatch q.2) (fun r ph' q => ?_)
      obtain ⟨rfl, q⟩ := q
      cases q
      refine px_ifeq rfl (by decide) rfl (fun hc => ?_) (fun hc => ?_)
      · replace h := (if_pos hc).symm.trans h
        refine px_forget (n := 0) (lv' := [_, _, _, _, _, _]) rfl ?_
        refine px_forget (n := 1) (lv' := [_, _, _, _, _, _]) rfl ?_
        refine px_forget (n := 2) (lv' := [_, _, _, _, _, _]) rfl ?_
        refine px_forget (n := 3) (lv' := [_, _, _, _, _, _]) rfl ?_
        refine px_forget (n := 4) (lv' := [_, _, _, _, _, _]) rfl ?_
        refine px_forget (n := 5) (lv' := [_, _, _, _, _, _]) rfl ?_
        exact (r_M_isSymbol_107 h :)
      · replace h := (if_neg hc).symm.trans h
        refine px_forget (n := 4) (lv' := [_, _, _, _, _, _]) rfl ?_
        refine px_forget (n := 5) (lv' := [_, _, _, _, _, _]) rfl ?_
        exact (r_M_isSymbol_98 h :)
  · replace h := (if_pos hc).symm.trans h
    refine px_ld rfl rfl rfl rfl rfl ?_
    refine px_ldcw rfl (by decide) rfl rfl ?_
    refine px_iceq rfl (by decide) rfl (fun hc => ?_) (fun hc => ?_)
    · replace h := (if_pos hc).symm.trans h
      refine px_ic (k := 0) rfl rfl rfl ?_
      refine px_forget (n := 0) (lv' := [_, _, _, _, _, _]) rfl ?_
      refine px_forget (n := 1) (lv' := [_, _, _, _, _, _]) rfl ?_
      refine px_forget (n := 2) (lv' := [_, _, _, _, _, _]) rfl ?_
      refine px_forget (n := 3) (lv' := [_, _, _, _, _, _]) rfl ?_
      refine px_forget (n := 4) (lv' := [_, _, _, _, _, _]) rfl ?_
      refine px_forget (n := 5) (lv' := [_, _, _, _, _, _]) rfl ?_
      exact (r_M_isSymbol_83 h :)
    · replace h := (if_neg hc).symm.trans h
      refine px_ic (k := 1) rfl rfl rfl ?_
      refine px_goto rfl (by decide) rfl ?_
      refine px_forget (n := 0) (lv' := [_, _, _, _, _, _]) rfl ?_
      refine px_forget (n := 1) (lv' := [_, _, _, _, _, _]) rfl ?_
      refine px_forget (n := 2) (lv' := [_, _, _, _, _, _]) rfl ?_
      refine px_forget (n := 3) (lv' := [_, _, _, _, _, _]) rfl ?_
      refine px_forget (n := 4) (lv' := [_, _, _, _, _, _]) rfl ?_
      refine px_forget (n := 5) (lv' := [_, _, _, _, _, _]) rfl ?_
      exact (r_M_isSymbol_83 h :)
def f_M_isSymbol_64 (F : Nat) (ph : px_H) : Option (Int32 × px_H) :=
  some (nI 0, ph)
theorem r_M_isSymbol_64 {l : Launch} {g : px_G} {d F : Nat} {ph : px_H} {r : Int32} {ph' : px_H} (h : f_M_isSymbol_64 F ph = some (r, ph')) : PW l g (d + 6) m_M_isSymbol 64 [px_u, px_u, px_u, px_u, px_u, px_u] [] ph (px_qI r ph') := by
  unfold f_M_isSymbol_64 at h
  refine px_ic (k := 0) rfl rfl rfl ?_
  cases h
  exact px_iret rfl (Or.inr ⟨rfl, Or.inl rfl⟩) rfl ⟨rfl, rfl⟩
def f_M_isSymbol_33 (F : Nat) (a0 : Nat) (a1 : Int32) (a2 : Int32) (a3 : Int32) (a4 : Int32) (s0 : Int32) (ph : px_H) : Option (Int32 × px_H) :=
  if (nI 2) < a4 then
    f_M_isSymbol_64 F ph
  else
    if a3 = 0 then
      f_M_isSymbol_66 F a0 a1 a2 a3 a4 s0 ph
    else
      if a3 = ((65521 : Int32)) then
        f_M_isSymbol_66 F a0 a1 a2 a3 a4 s0 ph
      else
        if a3 = ((65522 : Int32)) then
          f_M_isSymbol_66 F a0 a1 a2 a3 a4 s0 ph
        else
          if s0 = 0 then
            f_M_isSymbol_64 F ph
          else
            f_M_isSymbol_66 F a0 a1 a2 a3 a4 s0 ph
theorem r_M_isSymbol_33 {l : Launch} {g : px_G} {d F : Nat} {a0 : Nat} {a1 : Int32} {a2 : Int32} {a3 : Int32} {a4 : Int32} {s0 : Int32} {ph : px_H} {r : Int32} {ph' : px_H} (h : f_M_isSymbol_33 F a0 a1 a2 a3 a4 s0 ph = some (r, ph')) : PW l g (d + 6) m_M_isSymbol 33 [.ref a0, .int a1, .int a2, .int a3, .int a4, px_u] [.int s0] ph (px_qI r ph') := by
  unfold f_M_isSymbol_33 at h
  refine px_st (lv' := [_, _, _, _, _, _]) rfl rfl rfl rfl rfl rfl rfl ?_
  refine px_ld rfl rfl rfl rfl rfl ?_
  refine px_ic (k := 2) rfl rfl rfl ?_
  refine px_icgt rfl (by decide) rfl (fun hc => ?_) (fun hc => ?_)
  · replace h := (if_pos hc).symm.trans h
    refine px_forget (n := 0) (lv' := [_, _, _, _, _, _]) rfl ?_
    refine px_forget (n := 1) (lv' := [_, _, _, _, _, _]) rfl ?_
    refine px_forget (n := 2) (lv' := [_, _, _, _, _, _]) rfl ?_
    refine px_forget (n := 3) (lv' := [_, _, _, _, _, _]) rfl ?_
    refine px_forget (n := 4) (lv' := [_, _, _, _, _, _]) rfl ?_
    refine px_forget (n := 5) (lv' := [_, _, _, _, _, _]) rfl ?_
    exact (r_M_isSymbol_64 h :)
  · replace h := (if_neg hc).symm.trans h
    refine px_ld rfl rfl rfl rfl rfl ?_
    refine px_ifeq rfl (by decide) rfl (fun hc => ?_) (fun hc => ?_)
    · replace h := (if_pos hc).symm.trans h
      exact (r_M_isSymbol_66 h :)
    · replace h := (if_neg hc).symm.trans h
      refine px_ld rfl rfl rfl rfl rfl ?_
      refine px_ldcw rfl (by decide) rfl rfl ?_
      refine px_iceq rfl (by decide) rfl (fun hc => ?_) (fun hc => ?_)
      · replace h := (if_pos hc).symm.trans h
        exact (r_M_isSymbol_66 h :)
      · replace h := (if_neg hc).symm.trans h
        refine px_ld rfl rfl rfl rfl rfl ?_
        refine px_ldcw rfl (by decide) rfl rfl ?_
        refine px_iceq rfl (by decide) rfl (fun hc => ?_) (fun hc => ?_)
        · replace h := (if_pos hc).symm.trans h
          exact (r_M_isSymbol_66 h :)
        · replace h := (if_neg hc).symm.trans h
          refine px_ld rfl rfl rfl rfl rfl ?_
          refine px_ifne rfl (by decide) rfl (fun hc => ?_) (fun hc => ?_)
          · replace h := (if_neg hc).symm.trans h
            exact (r_M_isSymbol_66 h :)
          · replace h := (if_pos hc).symm.trans h
            refine px_forget (n := 0) (lv' := [_, _, _, _, _, _]) rfl ?_
            refine px_forget (n := 1) (lv' := [_, _, _, _, _, _]) rfl ?_
            refine px_forget (n := 2) (lv' := [_, _, _, _, _, _]) rfl ?_
            refine px_forget (n := 3) (lv' := [_, _, _, _, _, _]) rfl ?_
            refine px_forget (n := 4) (lv' := [_, _, _, _, _, _]) rfl ?_
            refine px_forget (n := 5) (lv' := [_, _, _, _, _, _]) rfl ?_
            exact (r_M_isSymbol_64 h :)
def f_M_isSymbol_32 (F : Nat) (a0 : Nat) (a1 : Int32) (a2 : Int32) (a3 : Int32) (a4 : Int32) (ph : px_H) : Option (Int32 × px_H) :=
  f_M_isSymbol_33 F a0 a1 a2 a3 a4 (nI 0) ph
theorem r_M_isSymbol_32 {l : Launch} {g : px_G} {d F : Nat} {a0 : Nat} {a1 : Int32} {a2 : Int32} {a3 : Int32} {a4 : Int32} {ph : px_H} {r : Int32} {ph' : px_H} (h : f_M_isSymbol_32 F a0 a1 a2 a3 a4 ph = some (r, ph')) : PW l g (d + 6) m_M_isSymbol 32 [.ref a0, .int a1, .int a2, .int a3, .int a4, px_u] [] ph (px_qI r ph') := by
  unfold f_M_isSymbol_32 at h
  refine px_ic (k := 0) rfl rfl rfl ?_
  exact (r_M_isSymbol_33 h :)
def f_M_isSymbol (F : Nat) (a0 : Nat) (a1 : Int32) (a2 : Int32) (ph : px_H) : Option (Int32 × px_H) :=
  (xo ph 12 a0).bind fun _ =>
  xb (f_M_where F a0 a1 a2 ph) fun t1 ph2 =>
  (xo ph2 12 a0).bind fun _ =>
  xb (f_M_bind F a0 a1 a2 ph2) fun t3 ph4 =>
  if t1 ≤ 0 then
    f_M_isSymbol_32 F a0 a1 a2 t1 t3 ph4
  else
    (xo ph4 12 a0).bind fun _ =>
    xb (f_M_sections F a0 a1 ph4) fun t5 ph6 =>
    if t5 ≤ t1 then
      f_M_isSymbol_32 F a0 a1 a2 t1 t3 ph6
    else
      f_M_isSymbol_33 F a0 a1 a2 t1 t3 (nI 1) ph6
theorem r_M_isSymbol {l : Launch} {g : px_G} {d F : Nat} {a0 : Nat} {a1 : Int32} {a2 : Int32} {ph : px_H} {r : Int32} {ph' : px_H} (h : f_M_isSymbol F a0 a1 a2 ph = some (r, ph')) : PW l g (d + 6) m_M_isSymbol 0 [.ref a0, .int a1, .int a2, px_u, px_u, px_u] [] ph (px_qI r ph') := by
  unfold f_M_isSymbol at h
  refine px_ld rfl rfl rfl rfl rfl ?_
  refine px_ld rfl rfl rfl rfl rfl ?_
  refine px_ld rfl rfl rfl rfl rfl ?_
  obtain ⟨fs, h0, h⟩ := xs_some h
  have e1 := xo_some h0
  obtain ⟨t1, ph2, h0, h⟩ := xb_some h
  refine px_cV2 rfl rfl e1 rfl rfl rfl rfl rfl rfl rfl (r_M_where h0 :) (fun _ _ q => nomatch q.2) (fun r ph' q => ?_)
  obtain ⟨rfl, q⟩ := q
  cases q
  refine px_st (lv' := [_, _, _, _, _, _]) rfl rfl rfl rfl rfl rfl rfl ?_
  refine px_ld rfl rfl rfl rfl rfl ?_
  refine px_ld rfl rfl rfl rfl rfl ?_
  refine px_ld rfl rfl rfl rfl rfl ?_
  obtain ⟨fs, h0, h⟩ := xs_some h
  have e1 := xo_some h0
  obtain ⟨t3, ph4, h0, h⟩ := xb_some h
  refine px_cV2 rfl rfl e1 rfl rfl rfl rfl rfl rfl rfl (r_M_bind h0 :) (fun _ _ q => nomatch q.2) (fun r ph' q => ?_)
  obtain ⟨rfl, q⟩ := q
  cases q
  refine px_st (lv' := [_, _, _, _, _, _]) rfl rfl rfl rfl rfl rfl rfl ?_
  refine px_ld rfl rfl rfl rfl rfl ?_
  refine px_ifle rfl (by decide) rfl (fun hc => ?_) (fun hc => ?_)
  · replace h := (if_pos hc).symm.trans h
    exact (r_M_isSymbol_32 h :)
  · replace h := (if_neg hc).symm.trans h
    refine px_ld rfl rfl rfl rfl rfl ?_
    refine px_ld rfl rfl rfl rfl rfl ?_
    refine px_ld rfl rfl rfl rfl rfl ?_
    obtain ⟨fs, h0, h⟩ := xs_some h
    have e1 := xo_some h0
    obtain ⟨t5, ph6, h0, h⟩ := xb_some h
    refine px_cV1 rfl rfl e1 rfl rfl rfl rfl rfl rfl rfl (r_M_sections h0 :) (fun _ _ q => nomatch q.2) (fun r ph' q => ?_)
    obtain ⟨rfl, q⟩ := q
    cases q
    refine px_icge rfl (by decide) rfl (fun hc => ?_) (fun hc => ?_)
    · replace h := (if_pos hc).symm.trans h
      exact (r_M_isSymbol_32 h :)
    · replace h := (if_neg hc).symm.trans h
      refine px_ic (k := 1) rfl rfl rfl ?_
      refine px_goto rfl (by decide) rfl ?_
      exact (r_M_isSymbol_33 h :)
def f_M_symbolsError_194 (F : Nat) (ph : px_H) : Option (Int32 × px_H) :=
  some (nI 0, ph)
theorem r_M_symbolsError_194 {l : Launch} {g : px_G} {d F : Nat} {ph : px_H} {r : Int32} {ph' : px_H} (h : f_M_symbolsError_194 F ph = some (r, ph')) : PW l g (d + 7) m_M_symbolsError 194 [px_u, px_u, px_u, px_u, px_u, px_u, px_u] [] ph (px_qI r ph') := by
  unfold f_M_symbolsError_194 at h
  refine px_ic (k := 0) rfl rfl rfl ?_
  cases h
  exact px_iret rfl (Or.inl rfl) rfl ⟨rfl, rfl⟩
def f_M_symbolsError_185 (F : Nat) (ph : px_H) : Option (Int32 × px_H) :=
  some (nI 6, ph)
theorem r_M_symbolsError_185 {l : Launch} {g : px_G} {d F : Nat} {ph : px_H} {r : Int32} {ph' : px_H} (h : f_M_symbolsError_185 F ph = some (r, ph')) : PW l g (d + 7) m_M_symbolsError 185 [px_u, px_u, px_u, px_u, px_u, px_u, px_u] [] ph (px_qI r ph') := by
  unfold f_M_symbolsError_185 at h
  refine px_ic (k := 6) rfl rfl rfl ?_
  cases h
  exact px_iret rfl (Or.inl rfl) rfl ⟨rfl, rfl⟩
def f_M_symbolsError_165 (F : Nat) : Nat → Nat → Int32 → Int32 → px_H → Option (Int32 × px_H)
  | 0, _, _, _, _ => none
  | n + 1, a0, a1, a6, ph =>
    (xo ph 12 a0).bind fun _ =>
    xb (f_M_symbolMany F a0 a1 ph) fun t1 ph2 =>
    if t1 ≤ a6 then
      f_M_symbolsError_194 F ph2
    else
      (xo ph2 12 a0).bind fun _ =>
      xb (f_M_isSymbol F a0 a1 a6 ph2) fun t3 ph4 =>
      if t3 = 0 then
        f_M_symbolsError_185 F ph4
      else
        f_M_symbolsError_165 F n a0 a1 (a6 + nI 1) ph4
theorem r_M_symbolsError_165 {l : Launch} {g : px_G} {d F : Nat} : ∀ (n : Nat) {a0 : Nat} {a1 : Int32} {a6 : Int32} {ph : px_H} {r : Int32} {ph' : px_H}, f_M_symbolsError_165 F n a0 a1 a6 ph = some (r, ph') → PW l g (d + 7) m_M_symbolsError 165 [.ref a0, .int a1, px_u, px_u, px_u, px_u, .int a6] [] ph (px_qI r ph') := by
  intro n
  induction n with
  | zero => intro _ _ _ _ _ _ h; cases h
  | succ n ih =>
    intro a0 a1 a6 ph r ph' h
    unfold f_M_symbolsError_165 at h
    refine px_ld rfl rfl rfl rfl rfl ?_
    refine px_ld rfl rfl rfl rfl rfl ?_
    refine px_ld rfl rfl rfl rfl rfl ?_
    obtain ⟨fs, h0, h⟩ := xs_some h
    have e1 := xo_some h0
    obtain ⟨t1, ph2, h0, h⟩ := xb_some h
    refine px_cV1 rfl rfl e1 rfl rfl rfl rfl rfl rfl rfl (r_M_symbolMany h0 :) (fun _ _ q => nomatch q.2) (fun r ph' q => ?_)
    obtain ⟨rfl, q⟩ := q
    cases q
    refine px_icge rfl (by decide) rfl (fun hc => ?_) (fun hc => ?_)
    · replace h := (if_pos hc).symm.trans h
      refine px_forget (n := 0) (lv' := [_, _, _, _, _, _, _]) rfl ?_
      refine px_forget (n := 1) (lv' := [_, _, _, _, _, _, _]) rfl ?_
      refine px_forget (n := 6) (lv' := [_, _, _, _, _, _, _]) rfl ?_
      exact (r_M_symbolsError_194 h :)
    · replace h := (if_neg hc).symm.trans h
      refine px_ld rfl rfl rfl rfl rfl ?_
      refine px_ld rfl rfl rfl rfl rfl ?_
      refine px_ld rfl rfl rfl rfl rfl ?_
      obtain ⟨fs, h0, h⟩ := xs_some h
      have e1 := xo_some h0
      obtain ⟨t3, ph4, h0, h⟩ := xb_some h
      refine px_cV2 rfl rfl e1 rfl rfl rfl rfl rfl rfl rfl (r_M_isSymbol h0 :) (fun _ _ q => nomatch q.2) (fun r ph' q => ?_)
      obtain ⟨rfl, q⟩ := q
      cases q
      refine px_ifne rfl (by decide) rfl (fun hc => ?_) (fun hc => ?_)
      · replace h := (if_neg hc).symm.trans h
        refine px_iinc (lv' := [_, _, _, _, _, _, _]) rfl rfl rfl rfl rfl rfl ?_
        refine px_goto rfl (by decide) rfl ?_
        exact (ih h :)
      · replace h := (if_pos hc).symm.trans h
        refine px_forget (n := 0) (lv' := [_, _, _, _, _, _, _]) rfl ?_
        refine px_forget (n := 1) (lv' := [_, _, _, _, _, _, _]) rfl ?_
        refine px_forget (n := 6) (lv' := [_, _, _, _, _, _, _]) rfl ?_
        exact (r_M_symbolsError_185 h :)
def f_M_symbolsError_160 (F : Nat) (ph : px_H) : Option (Int32 × px_H) :=
  some (nI 5, ph)
theorem r_M_symbolsError_160 {l : Launch} {g : px_G} {d F : Nat} {ph : px_H} {r : Int32} {ph' : px_H} (h : f_M_symbolsError_160 F ph = some (r, ph')) : PW l g (d + 7) m_M_symbolsError 160 [px_u, px_u, px_u, px_u, px_u, px_u, px_u] [] ph (px_qI r ph') := by
  unfold f_M_symbolsError_160 at h
  refine px_ic (k := 5) rfl rfl rfl ?_
  cases h
  exact px_iret rfl (Or.inl rfl) rfl ⟨rfl, rfl⟩
def f_M_symbolsError_148 (F : Nat) (a0 : Nat) (a1 : Int32) (a4 : Int32) (s0 : Int32) (ph : px_H) : Option (Int32 × px_H) :=
  if a4 = 0 then
    f_M_symbolsError_160 F ph
  else
    if s0 = 0 then
      f_M_symbolsError_160 F ph
    else
      f_M_symbolsError_165 F F a0 a1 (nI 1) ph
theorem r_M_symbolsError_148 {l : Launch} {g : px_G} {d F : Nat} {a0 : Nat} {a1 : Int32} {a4 : Int32} {s0 : Int32} {ph : px_H} {r : Int32} {ph' : px_H} (h : f_M_symbolsError_148 F a0 a1 a4 s0 ph = some (r, ph')) : PW l g (d + 7) m_M_symbolsError 148 [.ref a0, .int a1, px_u, px_u, .int a4, px_u, px_u] [.int s0] ph (px_qI r ph') := by
  unfold f_M_symbolsError_148 at h
  refine px_st (lv' := [_, _, _, _, _, _, _]) rfl rfl rfl rfl rfl rfl rfl ?_
  refine px_ld rfl rfl rfl rfl rfl ?_
  refine px_ifeq rfl (by decide) rfl (fun hc => ?_) (fun hc => ?_)
  · replace h := (if_pos hc).symm.trans h
    refine px_forget (n := 0) (lv' := [_, _, _, _, _, _, _]) rfl ?_
    refine px_forget (n := 1) (lv' := [_, _, _, _, _, _, _]) rfl ?_
    refine px_forget (n := 4) (lv' := [_, _, _, _, _, _, _]) rfl ?_
    refine px_forget (n := 5) (lv' := [_, _, _, _, _, _, _]) rfl ?_
    exact (r_M_symbolsError_160 h :)
  · replace h := (if_neg hc).symm.trans h
    refine px_ld rfl rfl rfl rfl rfl ?_
    refine px_ifne rfl (by decide) rfl (fun hc => ?_) (fun hc => ?_)
    · replace h := (if_neg hc).symm.trans h
      refine px_ic (k := 1) rfl rfl rfl ?_
      refine px_st (lv' := [_, _, _, _, _, _, _]) rfl rfl rfl rfl rfl rfl rfl ?_
      refine px_forget (n := 4) (lv' := [_, _, _, _, _, _, _]) rfl ?_
      refine px_forget (n := 5) (lv' := [_, _, _, _, _, _, _]) rfl ?_
      exact (r_M_symbolsError_165 _ h :)
    · replace h := (if_pos hc).symm.trans h
      refine px_forget (n := 0) (lv' := [_, _, _, _, _, _, _]) rfl ?_
      refine px_forget (n := 1) (lv' := [_, _, _, _, _, _, _]) rfl ?_
      refine px_forget (n := 4) (lv' := [_, _, _, _, _, _, _]) rfl ?_
      refine px_forget (n := 5) (lv' := [_, _, _, _, _, _, _]) rfl ?_
      exact (r_M_symbolsError_160 h :)
def f_M_symbolsError_147 (F : Nat) (a0 : Nat) (a1 : Int32) (a4 : Int32) (ph : px_H) : Option (Int32 × px_H) :=
  f_M_symbolsError_148 F a0 a1 a4 (nI 0) ph
theorem r_M_symbolsError_147 {l : Launch} {g : px_G} {d F : Nat} {a0 : Nat} {a1 : Int32} {a4 : Int32} {ph : px_H} {r : Int32} {ph' : px_H} (h : f_M_symbolsError_147 F a0 a1 a4 ph = some (r, ph')) : PW l g (d + 7) m_M_symbolsError 147 [.ref a0, .int a1, px_u, px_u, .int a4, px_u, px_u] [] ph (px_qI r ph') := by
  unfold f_M_symbolsError_147 at h
  refine px_ic (k := 0) rfl rfl rfl ?_
  exact (r_M_symbolsError_148 h :)
def f_M_symbolsError_106 (F : Nat) (a0 : Nat) (a1 : Int32) (a2 : Int32) (s0 : Int32) (ph : px_H) : Option (Int32 × px_H) :=
  (xo ph 12 a0).bind fun _ =>
  xb (f_M_linkOf F a0 a1 a2 ph) fun t1 ph2 =>
  (xo ph2 12 a0).bind fun _ =>
  xb (f_M_sections F a0 a1 ph2) fun t3 ph4 =>
  if t3.toInt64 ≤ t1 then
    f_M_symbolsError_147 F a0 a1 s0 ph4
  else
    (xo ph4 12 a0).bind fun _ =>
    xb (f_M_linkOf F a0 a1 a2 ph4) fun t5 ph6 =>
    (xo ph6 12 a0).bind fun _ =>
    xb (f_M_type F a0 a1 t5.toInt32 ph6) fun t7 ph8 =>
    if t7 = ((3 : Int64)) then
      f_M_symbolsError_148 F a0 a1 s0 (nI 1) ph8
    else
      f_M_symbolsError_147 F a0 a1 s0 ph8
theorem r_M_symbolsError_106 {l : Launch} {g : px_G} {d F : Nat} {a0 : Nat} {a1 : Int32} {a2 : Int32} {s0 : Int32} {ph : px_H} {r : Int32} {ph' : px_H} (h : f_M_symbolsError_106 F a0 a1 a2 s0 ph = some (r, ph')) : PW l g (d + 7) m_M_symbolsError 106 [.ref a0, .int a1, .int a2, px_u, px_u, px_u, px_u] [.int s0] ph (px_qI r ph') := by
  unfold f_M_symbolsError_106 at h
  refine px_st (lv' := [_, _, _, _, _, _, _]) rfl rfl rfl rfl rfl rfl rfl ?_
  refine px_ld rfl rfl rfl rfl rfl ?_
  refine px_ld rfl rfl rfl rfl rfl ?_
  refine px_ld rfl rfl rfl rfl rfl ?_
  obtain ⟨fs, h0, h⟩ := xs_some h
  have e1 := xo_some h0
  obtain ⟨t1, ph2, h0, h⟩ := xb_some h
  refine px_cV2 rfl rfl e1 rfl rfl rfl rfl rfl rfl rfl (r_M_linkOf h0 :) (fun _ _ q => nomatch q.2) (fun r ph' q => ?_)
  obtain ⟨rfl, q⟩ := q
  cases q
  refine px_ld rfl rfl rfl rfl rfl ?_
  refine px_ld rfl rfl rfl rfl rfl ?_
  obtain ⟨fs, h0, h⟩ := xs_some h
  have e1 := xo_some h0
  obtain ⟨t3, ph4, h0, h⟩ := xb_some h
  refine px_cV1 rfl rfl e1 rfl rfl rfl rfl rfl rfl rfl (r_M_sections h0 :) (fun _ _ q => nomatch q.2) (fun r ph' q => ?_)
  obtain ⟨rfl, q⟩ := q
  cases q
  refine px_alu rfl rfl rfl ?_
  refine px_alu rfl rfl rfl ?_
  refine px_ifge rfl (by decide) rfl (fun hc => ?_) (fun hc => ?_)
  · replace h := (if_pos ((lg_cmp_ge _ _).mp hc)).symm.trans h
    refine px_forget (n := 2) (lv' := [_, _, _, _, _, _, _]) rfl ?_
    exact (r_M_symbolsError_147 h :)
  · replace h := (if_neg (fun q => hc ((lg_cmp_ge _ _).mpr q))).symm.trans h
    refine px_ld rfl rfl rfl rfl rfl ?_
    refine px_ld rfl rfl rfl rfl rfl ?_
    refine px_ld rfl rfl rfl rfl rfl ?_
    refine px_ld rfl rfl rfl rfl rfl ?_
    refine px_ld rfl rfl rfl rfl rfl ?_
    obtain ⟨fs, h0, h⟩ := xs_some h
    have e1 := xo_some h0
    obtain ⟨t5, ph6, h0, h⟩ := xb_some h
    refine px_cV2 rfl rfl e1 rfl rfl rfl rfl rfl rfl rfl (r_M_linkOf h0 :) (fun _ _ q => nomatch q.2) (fun r ph' q => ?_)
    obtain ⟨rfl, q⟩ := q
    cases q
    refine px_alu rfl rfl rfl ?_
    obtain ⟨fs, h0, h⟩ := xs_some h
    have e1 := xo_some h0
    obtain ⟨t7, ph8, h0, h⟩ := xb_some h
    refine px_cV2 rfl rfl e1 rfl rfl rfl rfl rfl rfl rfl (r_M_type h0 :) (fun _ _ q => nomatch q.2) (fun r ph' q => ?_)
    obtain ⟨rfl, q⟩ := q
    cases q
    refine px_ldc2 rfl rfl rfl ?_
    refine px_alu rfl rfl rfl ?_
    refine px_ifne rfl (by decide) rfl (fun hc => ?_) (fun hc => ?_)
    · replace h := (if_neg (fun q => hc ((lg_cmp_eq _ _).mpr q))).symm.trans h
      refine px_forget (n := 2) (lv' := [_, _, _, _, _, _, _]) rfl ?_
      exact (r_M_symbolsError_147 h :)
    · replace h := (if_pos ((lg_cmp_eq _ _).mp hc)).symm.trans h
      refine px_ic (k := 1) rfl rfl rfl ?_
      refine px_goto rfl (by decide) rfl ?_
      refine px_forget (n := 2) (lv' := [_, _, _, _, _, _, _]) rfl ?_
      exact (r_M_symbolsError_148 h :)
def f_M_symbolsError_105 (F : Nat) (a0 : Nat) (a1 : Int32) (a2 : Int32) (ph : px_H) : Option (Int32 × px_H) :=
  f_M_symbolsError_106 F a0 a1 a2 (nI 0) ph
theorem r_M_symbolsError_105 {l : Launch} {g : px_G} {d F : Nat} {a0 : Nat} {a1 : Int32} {a2 : Int32} {ph : px_H} {r : Int32} {ph' : px_H} (h : f_M_symbolsError_105 F a0 a1 a2 ph = some (r, ph')) : PW l g (d + 7) m_M_symbolsError 105 [.ref a0, .int a1, .int a2, px_u, px_u, px_u, px_u] [] ph (px_qI r ph') := by
  unfold f_M_symbolsError_105 at h
  refine px_ic (k := 0) rfl rfl rfl ?_
  exact (r_M_symbolsError_106 h :)
def f_M_symbolsError_49 (F : Nat) (a0 : Nat) (a1 : Int32) (a2 : Int32) (a3 : Int32) (ph : px_H) : Option (Int32 × px_H) :=
  if a3 ≤ (nI 1) then
    if a3 = 0 then
      some (nI 0, ph)
    else
      (xo ph 12 a0).bind fun _ =>
      xb (f_M_size F a0 a1 a2 ph) fun t1 ph2 =>
      if (t1 - t1 / ((24 : Int64)) * ((24 : Int64))) = (lN 0) then
        (xo ph2 12 a0).bind fun _ =>
        xb (f_M_size F a0 a1 a2 ph2) fun t3 ph4 =>
        if t3 < (lN 0) then
          f_M_symbolsError_105 F a0 a1 a2 ph4
        else
          (xo ph4 12 a0).bind fun _ =>
          xb (f_M_size F a0 a1 a2 ph4) fun t5 ph6 =>
          if ((1536 : Int64)) < t5 then
            f_M_symbolsError_105 F a0 a1 a2 ph6
          else
            f_M_symbolsError_106 F a0 a1 a2 (nI 1) ph6
      else
        f_M_symbolsError_105 F a0 a1 a2 ph2
  else
    some (nI 5, ph)
theorem r_M_symbolsError_49 {l : Launch} {g : px_G} {d F : Nat} {a0 : Nat} {a1 : Int32} {a2 : Int32} {a3 : Int32} {ph : px_H} {r : Int32} {ph' : px_H} (h : f_M_symbolsError_49 F a0 a1 a2 a3 ph = some (r, ph')) : PW l g (d + 7) m_M_symbolsError 49 [.ref a0, .int a1, .int a2, .int a3, px_u, px_u, px_u] [] ph (px_qI r ph') := by
  unfold f_M_symbolsError_49 at h
  refine px_ld rfl rfl rfl rfl rfl ?_
  refine px_ic (k := 1) rfl rfl rfl ?_
  refine px_icle rfl (by decide) rfl (fun hc => ?_) (fun hc => ?_)
  · replace h := (if_pos hc).symm.trans h
    refine px_ld rfl rfl rfl rfl rfl ?_
    refine px_ifne rfl (by decide) rfl (fun hc => ?_) (fun hc => ?_)
    · replace h := (if_neg hc).symm.trans h
      refine px_ld rfl rfl rfl rfl rfl ?_
      refine px_ld rfl rfl rfl rfl rfl ?_
      refine px_ld rfl rfl rfl rfl rfl ?_
      obtain ⟨fs, h0, h⟩ := xs_some h
      have e1 := xo_some h0
      obtain ⟨t1, ph2, h0, h⟩ := xb_some h
      refine px_cV2 rfl rfl e1 rfl rfl rfl rfl rfl rfl rfl (r_M_size h0 :) (fun _ _ q => nomatch q.2) (fun r ph' q => ?_)
      obtain ⟨rfl, q⟩ := q
      cases q
      refine px_ldc2 rfl rfl rfl ?_
      refine px_lrem rfl (by decide) rfl ?_
      refine px_alu rfl rfl rfl ?_
      refine px_alu rfl rfl rfl ?_
      refine px_ifne rfl (by decide) rfl (fun hc => ?_) (fun hc => ?_)
      · replace h := (if_neg (fun q => hc ((lg_cmp_eq _ _).mpr q))).symm.trans h
        refine px_forget (n := 3) (lv' := [_, _, _, _, _, _, _]) rfl ?_
        exact (r_M_symbolsError_105 h :)
      · replace h := (if_pos ((lg_cmp_eq _ _).mp hc)).symm.trans h
        refine px_ld rfl rfl rfl rfl rfl ?_
        refine px_ld rfl rfl rfl rfl rfl ?_
        refine px_ld rfl rfl rfl rfl rfl ?_
        obtain ⟨fs, h0, h⟩ := xs_some h
        have e1 := xo_some h0
        obtain ⟨t3, ph4, h0, h⟩ := xb_some h
        refine px_cV2 rfl rfl e1 rfl rfl rfl rfl rfl rfl rfl (r_M_size h0 :) (fun _ _ q => nomatch q.2) (fun r ph' q => ?_)
        obtain ⟨rfl, q⟩ := q
        cases q
        refine px_alu rfl rfl rfl ?_
        refine px_alu rfl rfl rfl ?_
        refine px_iflt rfl (by decide) rfl (fun hc => ?_) (fun hc => ?_)
        · replace h := (if_pos ((lg_cmp_lt _ _).mp hc)).symm.trans h
          refine px_forget (n := 3) (lv' := [_, _, _, _, _, _, _]) rfl ?_
          exact (r_M_symbolsError_105 h :)
        · replace h := (if_neg (fun q => hc ((lg_cmp_lt _ _).mpr q))).symm.trans h
          refine px_ld rfl rfl rfl rfl rfl ?_
          refine px_ld rfl rfl rfl rfl rfl ?_
          refine px_ld rfl rfl rfl rfl rfl ?_
          obtain ⟨fs, h0, h⟩ := xs_some h
          have e1 := xo_some h0
          obtain ⟨t5, ph6, h0, h⟩ := xb_some h
          refine px_cV2 rfl rfl e1 rfl rfl rfl rfl rfl rfl rfl (r_M_size h0 :) (fun _ _ q => nomatch q.2) (fun r ph' q => ?_)
          obtain ⟨rfl, q⟩ := q
          cases q
          refine px_ldc2 rfl rfl rfl ?_
          refine px_alu rfl rfl rfl ?_
          refine px_ifgt rfl (by decide) rfl (fun hc => ?_) (fun hc => ?_)
          · replace h := (if_pos ((lg_cmp_gt _ _).mp hc)).symm.trans h
            refine px_forget (n := 3) (lv' := [_, _, _, _, _, _, _]) rfl ?_
            exact (r_M_symbolsError_105 h :)
          · replace h := (if_neg (fun q => hc ((lg_cmp_gt _ _).mpr q))).symm.trans h
            refine px_ic (k := 1) rfl rfl rfl ?_
            refine px_goto rfl (by decide) rfl ?_
            refine px_forget (n := 3) (lv' := [_, _, _, _, _, _, _]) rfl ?_
            exact (r_M_symbolsError_106 h :)
    · replace h := (if_pos hc).symm.trans h
      refine px_ic (k := 0) rfl rfl rfl ?_
      cases h
      exact px_iret rfl (Or.inl rfl) rfl ⟨rfl, rfl⟩
  · replace h := (if_neg hc).symm.trans h
    refine px_ic (k := 5) rfl rfl rfl ?_
    cases h
    exact px_iret rfl (Or.inl rfl) rfl ⟨rfl, rfl⟩
def f_M_symbolsError_41 (F : Nat) (k11 : Nat → Int32 → Int32 → Int32 → Int32 → px_H → Option (Int32 × px_H)) (a0 : Nat) (a1 : Int32) (a2 : Int32) (a4 : Int32) (s0 : Int32) (s1 : Int32) (ph : px_H) : Option (Int32 × px_H) :=
  k11 a0 a1 a2 (s0 + s1) (a4 + nI 1) ph
theorem r_M_symbolsError_41 {l : Launch} {g : px_G} {d F : Nat} {k11 : Nat → Int32 → Int32 → Int32 → Int32 → px_H → Option (Int32 × px_H)} (hk11 : ∀ {a0 : Nat} {a1 : Int32} {a2 : Int32} {a3 : Int32} {a4 : Int32} {ph : px_H} {r : Int32} {ph' : px_H}, k11 a0 a1 a2 a3 a4 ph = some (r, ph') → PW l g (d + 7) m_M_symbolsError 11 [.ref a0, .int a1, .int a2, .int a3, .int a4, px_u, px_u] [] ph (px_qI r ph')) {a0 : Nat} {a1 : Int32} {a2 : Int32} {a4 : Int32} {s0 : Int32} {s1 : Int32} {ph : px_H} {r : Int32} {ph' : px_H} (h : f_M_symbolsError_41 F k11 a0 a1 a2 a4 s0 s1 ph = some (r, ph')) : PW l g (d + 7) m_M_symbolsError 41 [.ref a0, .int a1, .int a2, px_u, .int a4, px_u, px_u] [.int s1, .int s0] ph (px_qI r ph') := by
  unfold f_M_symbolsError_41 at h
  refine px_alu rfl rfl rfl ?_
  refine px_st (lv' := [_, _, _, _, _, _, _]) rfl rfl rfl rfl rfl rfl rfl ?_
  refine px_iinc (lv' := [_, _, _, _, _, _, _]) rfl rfl rfl rfl rfl rfl ?_
  refine px_goto rfl (by decide) rfl ?_
  exact (hk11 h :)
def f_M_symbolsError_11 (F : Nat) : Nat → Nat → Int32 → Int32 → Int32 → Int32 → px_H → Option (Int32 × px_H)
  | 0, _, _, _, _, _, _ => none
  | n + 1, a0, a1, a2, a3, a4, ph =>
    (xo ph 12 a0).bind fun _ =>
    xb (f_M_sections F a0 a1 ph) fun t1 ph2 =>
    if t1 ≤ a4 then
      f_M_symbolsError_49 F a0 a1 a2 a3 ph2
    else
      (xo ph2 12 a0).bind fun _ =>
      xb (f_M_type F a0 a1 a4 ph2) fun t3 ph4 =>
      if t3 = ((2 : Int64)) then
        f_M_symbolsError_41 F (f_M_symbolsError_11 F n) a0 a1 a2 a4 a3 (nI 1) ph4
      else
        f_M_symbolsError_41 F (f_M_symbolsError_11 F n) a0 a1 a2 a4 a3 (nI 0) ph4
theorem r_M_symbolsError_11 {l : Launch} {g : px_G} {d F : Nat} : ∀ (n : Nat) {a0 : Nat} {a1 : Int32} {a2 : Int32} {a3 : Int32} {a4 : Int32} {ph : px_H} {r : Int32} {ph' : px_H}, f_M_symbolsError_11 F n a0 a1 a2 a3 a4 ph = some (r, ph') → PW l g (d + 7) m_M_symbolsError 11 [.ref a0, .int a1, .int a2, .int a3, .int a4, px_u, px_u] [] ph (px_qI r ph') := by
  intro n
  induction n with
  | zero => intro _ _ _ _ _ _ _ _ h; cases h
  | succ n ih =>
    intro a0 a1 a2 a3 a4 ph r ph' h
    unfold f_M_symbolsError_11 at h
    refine px_ld rfl rfl rfl rfl rfl ?_
    refine px_ld rfl rfl rfl rfl rfl ?_
    refine px_ld rfl rfl rfl rfl rfl ?_
    obtain ⟨fs, h0, h⟩ := xs_some h
    have e1 := xo_some h0
    obtain ⟨t1, ph2, h0, h⟩ := xb_some h
    refine px_cV1 rfl rfl e1 rfl rfl rfl rfl rfl rfl rfl (r_M_sections h0 :) (fun _ _ q => nomatch q.2) (fun r ph' q => ?_)
    obtain ⟨rfl, q⟩ := q
    cases q
    refine px_icge rfl (by decide) rfl (fun hc => ?_) (fun hc => ?_)
    · replace h := (if_pos hc).symm.trans h
      refine px_forget (n := 4) (lv' := [_, _, _, _, _, _, _]) rfl ?_
      exact (r_M_symbolsError_49 h :)
    · replace h := (if_neg hc).symm.trans h
      refine px_ld rfl rfl rfl rfl rfl ?_
      refine px_ld rfl rfl rfl rfl rfl ?_
      refine px_ld rfl rfl rfl rfl rfl ?_
      refine px_ld rfl rfl rfl rfl rfl ?_
      obtain ⟨fs, h0, h⟩ := xs_some h
      have e1 := xo_some h0
      obtain ⟨t3, ph4, h0, h⟩ := xb_some h
      refine px_cV2 rfl rfl e1 rfl rfl rfl rfl rfl rfl rfl (r_M_type h0 :) (fun _ _ q => nomatch q.2) (fun r ph' q => ?_)
      obtain ⟨rfl, q⟩ := q
      cases q
      refine px_ldc2 rfl rfl rfl ?_
      refine px_alu rfl rfl rfl ?_
      refine px_ifne rfl (by decide) rfl (fun hc => ?_) (fun hc => ?_)
      · replace h := (if_neg (fun q => hc ((lg_cmp_eq _ _).mpr q))).symm.trans h
        refine px_ic (k := 0) rfl rfl rfl ?_
        refine px_forget (n := 3) (lv' := [_, _, _, _, _, _, _]) rfl ?_
        exact (r_M_symbolsError_41 @ih h :)
      · replace h := (if_pos ((lg_cmp_eq _ _).mp hc)).symm.trans h
        refine px_ic (k := 1) rfl rfl rfl ?_
        refine px_goto rfl (by decide) rfl ?_
        refine px_forget (n := 3) (lv' := [_, _, _, _, _, _, _]) rfl ?_
        exact (r_M_symbolsError_41 @ih h :)
def f_M_symbolsError (F : Nat) (a0 : Nat) (a1 : Int32) (ph : px_H) : Option (Int32 × px_H) :=
  (xo ph 12 a0).bind fun _ =>
  xb (f_M_symbols F a0 a1 ph) fun t1 ph2 =>
  f_M_symbolsError_11 F F a0 a1 t1 (nI 0) (nI 1) ph2
theorem r_M_symbolsError {l : Launch} {g : px_G} {d F : Nat} {a0 : Nat} {a1 : Int32} {ph : px_H} {r : Int32} {ph' : px_H} (h : f_M_symbolsError F a0 a1 ph = some (r, ph')) : PW l g (d + 7) m_M_symbolsError 0 [.ref a0, .int a1, px_u, px_u, px_u, px_u, px_u] [] ph (px_qI r ph') := by
  unfold f_M_symbolsError at h
  refine px_ld rfl rfl rfl rfl rfl ?_
  refine px_ld rfl rfl rfl rfl rfl ?_
  obtain ⟨fs, h0, h⟩ := xs_some h
  have e1 := xo_some h0
  obtain ⟨t1, ph2, h0, h⟩ := xb_some h
  refine px_cV1 rfl rfl e1 rfl rfl rfl rfl rfl rfl rfl (r_M_symbols h0 :) (fun _ _ q => nomatch q.2) (fun r ph' q => ?_)
  obtain ⟨rfl, q⟩ := q
  cases q
  refine px_st (lv' := [_, _, _, _, _, _, _]) rfl rfl rfl rfl rfl rfl rfl ?_
  refine px_ic (k := 0) rfl rfl rfl ?_
  refine px_st (lv' := [_, _, _, _, _, _, _]) rfl rfl rfl rfl rfl rfl rfl ?_
  refine px_ic (k := 1) rfl rfl rfl ?_
  refine px_st (lv' := [_, _, _, _, _, _, _]) rfl rfl rfl rfl rfl rfl rfl ?_
  exact (r_M_symbolsError_11 _ h :)
def f_M_info (F : Nat) (a0 : Nat) (a1 : Int32) (a2 : Int32) (ph : px_H) : Option (Int64 × px_H) :=
  (xo ph 12 a0).bind fun _ =>
  xb (f_M_row F a0 a1 a2 ph) fun t1 ph2 =>
  (xo ph2 12 a0).bind fun _ =>
  xb (f_M_num F a0 (t1 + (nI 44)) (nI 4) ph2) fun t3 ph4 =>
  some (t3, ph4)
theorem r_M_info {l : Launch} {g : px_G} {d F : Nat} {a0 : Nat} {a1 : Int32} {a2 : Int32} {ph : px_H} {r : Int64} {ph' : px_H} (h : f_M_info F a0 a1 a2 ph = some (r, ph')) : PW l g (d + 2) m_M_info 0 [.ref a0, .int a1, .int a2] [] ph (px_qJ r ph') := by
  unfold f_M_info at h
  refine px_ld rfl rfl rfl rfl rfl ?_
  refine px_ld rfl rfl rfl rfl rfl ?_
  refine px_ld rfl rfl rfl rfl rfl ?_
  refine px_ld rfl rfl rfl rfl rfl ?_
  obtain ⟨fs, h0, h⟩ := xs_some h
  have e1 := xo_some h0
  obtain ⟨t1, ph2, h0, h⟩ := xb_some h
  refine px_cV2 rfl rfl e1 rfl rfl rfl rfl rfl rfl rfl (r_M_row h0 :) (fun _ _ q => nomatch q.2) (fun r ph' q => ?_)
  obtain ⟨rfl, q⟩ := q
  cases q
  refine px_ic (k := 44) rfl rfl rfl ?_
  refine px_alu rfl rfl rfl ?_
  refine px_ic (k := 4) rfl rfl rfl ?_
  obtain ⟨fs, h0, h⟩ := xs_some h
  have e1 := xo_some h0
  obtain ⟨t3, ph4, h0, h⟩ := xb_some h
  refine px_cV2 rfl rfl e1 rfl rfl rfl rfl rfl rfl rfl (r_M_num h0 :) (fun _ _ q => nomatch q.2) (fun r ph' q => ?_)
  obtain ⟨rfl, q⟩ := q
  cases q
  cases h
  exact px_lret rfl rfl rfl ⟨rfl, rfl⟩
def f_M_isSites_49 (F : Nat) (s0 : Int32) (ph : px_H) : Option (Int32 × px_H) :=
  xz s0 ph
theorem r_M_isSites_49 {l : Launch} {g : px_G} {d F : Nat} {s0 : Int32} {ph : px_H} {r : Int32} {ph' : px_H} (h : f_M_isSites_49 F s0 ph = some (r, ph')) : PW l g (d + 4) m_M_isSites 49 [px_u, px_u, px_u] [.int s0] ph (px_qI r ph') := by
  unfold f_M_isSites_49 at h
  obtain ⟨e0, e1, e2⟩ := xz_some h
  subst e1 e2
  exact px_iret rfl (Or.inr ⟨rfl, e0⟩) rfl ⟨rfl, rfl⟩
def f_M_isSites_48 (F : Nat) (ph : px_H) : Option (Int32 × px_H) :=
  f_M_isSites_49 F (nI 0) ph
theorem r_M_isSites_48 {l : Launch} {g : px_G} {d F : Nat} {ph : px_H} {r : Int32} {ph' : px_H} (h : f_M_isSites_48 F ph = some (r, ph')) : PW l g (d + 4) m_M_isSites 48 [px_u, px_u, px_u] [] ph (px_qI r ph') := by
  unfold f_M_isSites_48 at h
  refine px_ic (k := 0) rfl rfl rfl ?_
  exact (r_M_isSites_49 h :)
def f_M_isSites (F : Nat) (a0 : Nat) (a1 : Int32) (a2 : Int32) (ph : px_H) : Option (Int32 × px_H) :=
  (xo ph 12 a0).bind fun _ =>
  xb (f_M_type F a0 a1 a2 ph) fun t1 ph2 =>
  if t1 = ((4 : Int64)) then
    (xo ph2 12 a0).bind fun _ =>
    xb (f_M_info F a0 a1 a2 ph2) fun t3 ph4 =>
    (xo ph4 12 a0).bind fun _ =>
    xb (f_M_sections F a0 a1 ph4) fun t5 ph6 =>
    if t5.toInt64 ≤ t3 then
      f_M_isSites_48 F ph6
    else
      (xo ph6 12 a0).bind fun _ =>
      xb (f_M_info F a0 a1 a2 ph6) fun t7 ph8 =>
      (xo ph8 12 a0).bind fun _ =>
      xb (f_M_isKept F a0 a1 t7.toInt32 ph8) fun t9 ph10 =>
      if t9 = 0 then
        f_M_isSites_48 F ph10
      else
        f_M_isSites_49 F (nI 1) ph10
  else
    f_M_isSites_48 F ph2
theorem r_M_isSites {l : Launch} {g : px_G} {d F : Nat} {a0 : Nat} {a1 : Int32} {a2 : Int32} {ph : px_H} {r : Int32} {ph' : px_H} (h : f_M_isSites F a0 a1 a2 ph = some (r, ph')) : PW l g (d + 4) m_M_isSites 0 [.ref a0, .int a1, .int a2] [] ph (px_qI r ph') := by
  unfold f_M_isSites at h
  refine px_ld rfl rfl rfl rfl rfl ?_
  refine px_ld rfl rfl rfl rfl rfl ?_
  refine px_ld rfl rfl rfl rfl rfl ?_
  obtain ⟨fs, h0, h⟩ := xs_some h
  have e1 := xo_some h0
  obtain ⟨t1, ph2, h0, h⟩ := xb_some h
  refine px_cV2 rfl rfl e1 rfl rfl rfl rfl rfl rfl rfl (r_M_type h0 :) (fun _ _ q => nomatch q.2) (fun r ph' q => ?_)
  obtain ⟨rfl, q⟩ := q
  cases q
  refine px_ldc2 rfl rfl rfl ?_
  refine px_alu rfl rfl rfl ?_
  refine px_ifne rfl rfl rfl (fun hc => ?_) (fun hc => ?_)
  · replace h := (if_neg (fun q => hc ((lg_cmp_eq _ _).mpr q))).symm.trans h
    refine px_forget (n := 0) (lv' := [_, _, _]) rfl ?_
    refine px_forget (n := 1) (lv' := [_, _, _]) rfl ?_
    refine px_forget (n := 2) (lv' := [_, _, _]) rfl ?_
    exact (r_M_isSites_48 h :)
  · replace h := (if_pos ((lg_cmp_eq _ _).mp hc)).symm.trans h
    refine px_ld rfl rfl rfl rfl rfl ?_
    refine px_ld rfl rfl rfl rfl rfl ?_
    refine px_ld rfl rfl rfl rfl rfl ?_
    obtain ⟨fs, h0, h⟩ := xs_some h
    have e1 := xo_some h0
    obtain ⟨t3, ph4, h0, h⟩ := xb_some h
    refine px_cV2 rfl rfl e1 rfl rfl rfl rfl rfl rfl rfl (r_M_info h0 :) (fun _ _ q => nomatch q.2) (fun r ph' q => ?_)
    obtain ⟨rfl, q⟩ := q
    cases q
    refine px_ld rfl rfl rfl rfl rfl ?_
    refine px_ld rfl rfl rfl rfl rfl ?_
    obtain ⟨fs, h0, h⟩ := xs_some h
    have e1 := xo_some h0
    obtain ⟨t5, ph6, h0, h⟩ := xb_some h
    refine px_cV1 rfl rfl e1 rfl rfl rfl rfl rfl rfl rfl (r_M_sections h0 :) (fun _ _ q => nomatch q.2) (fun r ph' q => ?_)
    obtain ⟨rfl, q⟩ := q
    cases q
    refine px_alu rfl rfl rfl ?_
    refine px_alu rfl rfl rfl ?_
    refine px_ifge rfl rfl rfl (fun hc => ?_) (fun hc => ?_)
    · replace h := (if_pos ((lg_cmp_ge _ _).mp hc)).symm.trans h
      refine px_forget (n := 0) (lv' := [_, _, _]) rfl ?_
      refine px_forget (n := 1) (lv' := [_, _, _]) rfl ?_
      refine px_forget (n := 2) (lv' := [_, _, _]) rfl ?_
      exact (r_M_isSites_48 h :)
    · replace h := (if_neg (fun q => hc ((lg_cmp_ge _ _).mpr q))).symm.trans h
      refine px_ld rfl rfl rfl rfl rfl ?_
      refine px_ld rfl rfl rfl rfl rfl ?_
      refine px_ld rfl rfl rfl rfl rfl ?_
      refine px_ld rfl rfl rfl rfl rfl ?_
      refine px_ld rfl rfl rfl rfl rfl ?_
      obtain ⟨fs, h0, h⟩ := xs_some h
      have e1 := xo_some h0
      obtain ⟨t7, ph8, h0, h⟩ := xb_some h
      refine px_cV2 rfl rfl e1 rfl rfl rfl rfl rfl rfl rfl (r_M_info h0 :) (fun _ _ q => nomatch q.2) (fun r ph' q => ?_)
      obtain ⟨rfl, q⟩ := q
      cases q
      refine px_alu rfl rfl rfl ?_
      obtain ⟨fs, h0, h⟩ := xs_some h
      have e1 := xo_some h0
      obtain ⟨t9, ph10, h0, h⟩ := xb_some h
      refine px_cV2 rfl rfl e1 rfl rfl rfl rfl rfl rfl rfl (r_M_isKept h0 :) (fun _ _ q => nomatch q.2) (fun r ph' q => ?_)
      obtain ⟨rfl, q⟩ := q
      cases q
      refine px_ifeq rfl rfl rfl (fun hc => ?_) (fun hc => ?_)
      · replace h := (if_pos hc).symm.trans h
        refine px_forget (n := 0) (lv' := [_, _, _]) rfl ?_
        refine px_forget (n := 1) (lv' := [_, _, _]) rfl ?_
        refine px_forget (n := 2) (lv' := [_, _, _]) rfl ?_
        exact (r_M_isSites_48 h :)
      · replace h := (if_neg hc).symm.trans h
        refine px_ic (k := 1) rfl rfl rfl ?_
        refine px_goto rfl rfl rfl ?_
        refine px_forget (n := 0) (lv' := [_, _, _]) rfl ?_
        refine px_forget (n := 1) (lv' := [_, _, _]) rfl ?_
        refine px_forget (n := 2) (lv' := [_, _, _]) rfl ?_
        exact (r_M_isSites_49 h :)
def f_M_siteMany (F : Nat) (a0 : Nat) (a1 : Int32) (a2 : Int32) (ph : px_H) : Option (Int32 × px_H) :=
  (xo ph 12 a0).bind fun _ =>
  xb (f_M_size F a0 a1 a2 ph) fun t1 ph2 =>
  some ((t1 / ((24 : Int64))).toInt32, ph2)
theorem r_M_siteMany {l : Launch} {g : px_G} {d F : Nat} {a0 : Nat} {a1 : Int32} {a2 : Int32} {ph : px_H} {r : Int32} {ph' : px_H} (h : f_M_siteMany F a0 a1 a2 ph = some (r, ph')) : PW l g (d + 3) m_M_siteMany 0 [.ref a0, .int a1, .int a2] [] ph (px_qI r ph') := by
  unfold f_M_siteMany at h
  refine px_ld rfl rfl rfl rfl rfl ?_
  refine px_ld rfl rfl rfl rfl rfl ?_
  refine px_ld rfl rfl rfl rfl rfl ?_
  obtain ⟨fs, h0, h⟩ := xs_some h
  have e1 := xo_some h0
  obtain ⟨t1, ph2, h0, h⟩ := xb_some h
  refine px_cV2 rfl rfl e1 rfl rfl rfl rfl rfl rfl rfl (r_M_size h0 :) (fun _ _ q => nomatch q.2) (fun r ph' q => ?_)
  obtain ⟨rfl, q⟩ := q
  cases q
  refine px_ldc2 rfl rfl rfl ?_
  refine px_ldiv rfl (by decide) rfl ?_
  refine px_alu rfl rfl rfl ?_
  cases h
  exact px_iret rfl (Or.inl rfl) rfl ⟨rfl, rfl⟩
def f_M_site (F : Nat) (a0 : Nat) (a1 : Int32) (a2 : Int32) (a3 : Int32) (ph : px_H) : Option (Int32 × px_H) :=
  (xo ph 12 a0).bind fun _ =>
  xb (f_M_beginning F a0 a1 a2 ph) fun t1 ph2 =>
  some ((a1 + t1.toInt32) + ((nI 24) * a3), ph2)
theorem r_M_site {l : Launch} {g : px_G} {d F : Nat} {a0 : Nat} {a1 : Int32} {a2 : Int32} {a3 : Int32} {ph : px_H} {r : Int32} {ph' : px_H} (h : f_M_site F a0 a1 a2 a3 ph = some (r, ph')) : PW l g (d + 3) m_M_site 0 [.ref a0, .int a1, .int a2, .int a3] [] ph (px_qI r ph') := by
  unfold f_M_site at h
  refine px_ld rfl rfl rfl rfl rfl ?_
  refine px_ld rfl rfl rfl rfl rfl ?_
  refine px_ld rfl rfl rfl rfl rfl ?_
  refine px_ld rfl rfl rfl rfl rfl ?_
  obtain ⟨fs, h0, h⟩ := xs_some h
  have e1 := xo_some h0
  obtain ⟨t1, ph2, h0, h⟩ := xb_some h
  refine px_cV2 rfl rfl e1 rfl rfl rfl rfl rfl rfl rfl (r_M_beginning h0 :) (fun _ _ q => nomatch q.2) (fun r ph' q => ?_)
  obtain ⟨rfl, q⟩ := q
  cases q
  refine px_alu rfl rfl rfl ?_
  refine px_alu rfl rfl rfl ?_
  refine px_ic (k := 24) rfl rfl rfl ?_
  refine px_ld rfl rfl rfl rfl rfl ?_
  refine px_alu rfl rfl rfl ?_
  refine px_alu rfl rfl rfl ?_
  cases h
  exact px_iret rfl (Or.inl rfl) rfl ⟨rfl, rfl⟩
def f_M_isSlotted_37 (F : Nat) (s0 : Int32) (ph : px_H) : Option (Int32 × px_H) :=
  xz s0 ph
theorem r_M_isSlotted_37 {l : Launch} {g : px_G} {d F : Nat} {s0 : Int32} {ph : px_H} {r : Int32} {ph' : px_H} (h : f_M_isSlotted_37 F s0 ph = some (r, ph')) : PW l g (d + 0) m_M_isSlotted 37 [px_u, px_u] [.int s0] ph (px_qI r ph') := by
  unfold f_M_isSlotted_37 at h
  obtain ⟨e0, e1, e2⟩ := xz_some h
  subst e1 e2
  exact px_iret rfl (Or.inr ⟨rfl, e0⟩) rfl ⟨rfl, rfl⟩
def f_M_isSlotted_32 (F : Nat) (ph : px_H) : Option (Int32 × px_H) :=
  f_M_isSlotted_37 F (nI 1) ph
theorem r_M_isSlotted_32 {l : Launch} {g : px_G} {d F : Nat} {ph : px_H} {r : Int32} {ph' : px_H} (h : f_M_isSlotted_32 F ph = some (r, ph')) : PW l g (d + 0) m_M_isSlotted 32 [px_u, px_u] [] ph (px_qI r ph') := by
  unfold f_M_isSlotted_32 at h
  refine px_ic (k := 1) rfl rfl rfl ?_
  refine px_goto rfl rfl rfl ?_
  exact (r_M_isSlotted_37 h :)
def f_M_isSlotted (F : Nat) (a0 : Int64) (ph : px_H) : Option (Int32 × px_H) :=
  if a0 = ((9 : Int64)) then
    f_M_isSlotted_32 F ph
  else
    if a0 = ((22 : Int64)) then
      f_M_isSlotted_32 F ph
    else
      if a0 = ((41 : Int64)) then
        f_M_isSlotted_32 F ph
      else
        if a0 = ((42 : Int64)) then
          f_M_isSlotted_32 F ph
        else
          f_M_isSlotted_37 F (nI 0) ph
theorem r_M_isSlotted {l : Launch} {g : px_G} {d F : Nat} {a0 : Int64} {ph : px_H} {r : Int32} {ph' : px_H} (h : f_M_isSlotted F a0 ph = some (r, ph')) : PW l g (d + 0) m_M_isSlotted 0 [.long a0, px_u] [] ph (px_qI r ph') := by
  unfold f_M_isSlotted at h
  refine px_ld rfl rfl rfl rfl rfl ?_
  refine px_ldc2 rfl rfl rfl ?_
  refine px_alu rfl rfl rfl ?_
  refine px_ifeq rfl rfl rfl (fun hc => ?_) (fun hc => ?_)
  · replace h := (if_pos ((lg_cmp_eq _ _).mp hc)).symm.trans h
    refine px_forget (n := 0) (lv' := [_, _]) rfl ?_
    exact (r_M_isSlotted_32 h :)
  · replace h := (if_neg (fun q => hc ((lg_cmp_eq _ _).mpr q))).symm.trans h
    refine px_ld rfl rfl rfl rfl rfl ?_
    refine px_ldc2 rfl rfl rfl ?_
    refine px_alu rfl rfl rfl ?_
    refine px_ifeq rfl rfl rfl (fun hc => ?_) (fun hc => ?_)
    · replace h := (if_pos ((lg_cmp_eq _ _).mp hc)).symm.trans h
      refine px_forget (n := 0) (lv' := [_, _]) rfl ?_
      exact (r_M_isSlotted_32 h :)
    · replace h := (if_neg (fun q => hc ((lg_cmp_eq _ _).mpr q))).symm.trans h
      refine px_ld rfl rfl rfl rfl rfl ?_
      refine px_ldc2 rfl rfl rfl ?_
      refine px_alu rfl rfl rfl ?_
      refine px_ifeq rfl rfl rfl (fun hc => ?_) (fun hc => ?_)
      · replace h := (if_pos ((lg_cmp_eq _ _).mp hc)).symm.trans h
        refine px_forget (n := 0) (lv' := [_, _]) rfl ?_
        exact (r_M_isSlotted_32 h :)
      · replace h := (if_neg (fun q => hc ((lg_cmp_eq _ _).mpr q))).symm.trans h
        refine px_ld rfl rfl rfl rfl rfl ?_
        refine px_ldc2 rfl rfl rfl ?_
        refine px_alu rfl rfl rfl ?_
        refine px_ifne rfl rfl rfl (fun hc => ?_) (fun hc => ?_)
        · replace h := (if_neg (fun q => hc ((lg_cmp_eq _ _).mpr q))).symm.trans h
          refine px_ic (k := 0) rfl rfl rfl ?_
          refine px_forget (n := 0) (lv' := [_, _]) rfl ?_
          exact (r_M_isSlotted_37 h :)
        · replace h := (if_pos ((lg_cmp_eq _ _).mp hc)).symm.trans h
          refine px_forget (n := 0) (lv' := [_, _]) rfl ?_
          exact (r_M_isSlotted_32 h :)
def f_M_width_81 (F : Nat) (s0 : Int32) (ph : px_H) : Option (Int32 × px_H) :=
  some (s0, ph)
theorem r_M_width_81 {l : Launch} {g : px_G} {d F : Nat} {s0 : Int32} {ph : px_H} {r : Int32} {ph' : px_H} (h : f_M_width_81 F s0 ph = some (r, ph')) : PW l g (d + 1) m_M_width 81 [px_u, px_u] [.int s0] ph (px_qI r ph') := by
  unfold f_M_width_81 at h
  cases h
  exact px_iret rfl (Or.inl rfl) rfl ⟨rfl, rfl⟩
def f_M_width_66 (F : Nat) (ph : px_H) : Option (Int32 × px_H) :=
  f_M_width_81 F (nI 4) ph
theorem r_M_width_66 {l : Launch} {g : px_G} {d F : Nat} {ph : px_H} {r : Int32} {ph' : px_H} (h : f_M_width_66 F ph = some (r, ph')) : PW l g (d + 1) m_M_width 66 [px_u, px_u] [] ph (px_qI r ph') := by
  unfold f_M_width_66 at h
  refine px_ic (k := 4) rfl rfl rfl ?_
  refine px_goto rfl rfl rfl ?_
  exact (r_M_width_81 h :)
def f_M_width_14 (F : Nat) (ph : px_H) : Option (Int32 × px_H) :=
  f_M_width_81 F (nI 8) ph
theorem r_M_width_14 {l : Launch} {g : px_G} {d F : Nat} {ph : px_H} {r : Int32} {ph' : px_H} (h : f_M_width_14 F ph = some (r, ph')) : PW l g (d + 1) m_M_width 14 [px_u, px_u] [] ph (px_qI r ph') := by
  unfold f_M_width_14 at h
  refine px_ic (k := 8) rfl rfl rfl ?_
  refine px_goto rfl rfl rfl ?_
  exact (r_M_width_81 h :)
def f_M_width (F : Nat) (a0 : Int64) (ph : px_H) : Option (Int32 × px_H) :=
  if a0 = (lN 1) then
    f_M_width_14 F ph
  else
    if a0 = ((18 : Int64)) then
      f_M_width_14 F ph
    else
      if a0 = ((2 : Int64)) then
        f_M_width_66 F ph
      else
        if a0 = ((4 : Int64)) then
          f_M_width_66 F ph
        else
          if a0 = ((10 : Int64)) then
            f_M_width_66 F ph
          else
            if a0 = ((11 : Int64)) then
              f_M_width_66 F ph
            else
              if a0 = ((23 : Int64)) then
                f_M_width_66 F ph
              else
                xb (f_M_isSlotted F a0 ph) fun t1 ph2 =>
                if t1 = 0 then
                  if a0 = (lN 0) then
                    f_M_width_81 F (nI 0) ph2
                  else
                    f_M_width_81 F (Int32.ofInt (-1)) ph2
                else
                  f_M_width_66 F ph2
theorem r_M_width {l : Launch} {g : px_G} {d F : Nat} {a0 : Int64} {ph : px_H} {r : Int32} {ph' : px_H} (h : f_M_width F a0 ph = some (r, ph')) : PW l g (d + 1) m_M_width 0 [.long a0, px_u] [] ph (px_qI r ph') := by
  unfold f_M_width at h
  refine px_ld rfl rfl rfl rfl rfl ?_
  refine px_alu rfl rfl rfl ?_
  refine px_alu rfl rfl rfl ?_
  refine px_ifeq rfl rfl rfl (fun hc => ?_) (fun hc => ?_)
  · replace h := (if_pos ((lg_cmp_eq _ _).mp hc)).symm.trans h
    refine px_forget (n := 0) (lv' := [_, _]) rfl ?_
    exact (r_M_width_14 h :)
  · replace h := (if_neg (fun q => hc ((lg_cmp_eq _ _).mpr q))).symm.trans h
    refine px_ld rfl rfl rfl rfl rfl ?_
    refine px_ldc2 rfl rfl rfl ?_
    refine px_alu rfl rfl rfl ?_
    refine px_ifne rfl rfl rfl (fun hc => ?_) (fun hc => ?_)
    · replace h := (if_neg (fun q => hc ((lg_cmp_eq _ _).mpr q))).symm.trans h
      refine px_ld rfl rfl rfl rfl rfl ?_
      refine px_ldc2 rfl rfl rfl ?_
      refine px_alu rfl rfl rfl ?_
      refine px_ifeq rfl rfl rfl (fun hc => ?_) (fun hc => ?_)
      · replace h := (if_pos ((lg_cmp_eq _ _).mp hc)).symm.trans h
        refine px_forget (n := 0) (lv' := [_, _]) rfl ?_
        exact (r_M_width_66 h :)
      · replace h := (if_neg (fun q => hc ((lg_cmp_eq _ _).mpr q))).symm.trans h
        refine px_ld rfl rfl rfl rfl rfl ?_
        refine px_ldc2 rfl rfl rfl ?_
        refine px_alu rfl rfl rfl ?_
        refine px_ifeq rfl rfl rfl (fun hc => ?_) (fun hc => ?_)
        · replace h := (if_pos ((lg_cmp_eq _ _).mp hc)).symm.trans h
          refine px_forget (n := 0) (lv' := [_, _]) rfl ?_
          exact (r_M_width_66 h :)
        · replace h := (if_neg (fun q => hc ((lg_cmp_eq _ _).mpr q))).symm.trans h
          refine px_ld rfl rfl rfl rfl rfl ?_
          refine px_ldc2 rfl rfl rfl ?_
          refine px_alu rfl rfl rfl ?_
          refine px_ifeq rfl rfl rfl (fun hc => ?_) (fun hc => ?_)
          · replace h := (if_pos ((lg_cmp_eq _ _).mp hc)).symm.trans h
            refine px_forget (n := 0) (lv' := [_, _]) rfl ?_
            exact (r_M_width_66 h :)
          · replace h := (if_neg (fun q => hc ((lg_cmp_eq _ _).mpr q))).symm.trans h
            refine px_ld rfl rfl rfl rfl rfl ?_
            refine px_ldc2 rfl rfl rfl ?_
            refine px_alu rfl rfl rfl ?_
            refine px_ifeq rfl rfl rfl (fun hc => ?_) (fun hc => ?_)
            · replace h := (if_pos ((lg_cmp_eq _ _).mp hc)).symm.trans h
              refine px_forget (n := 0) (lv' := [_, _]) rfl ?_
              exact (r_M_width_66 h :)
            · replace h := (if_neg (fun q => hc ((lg_cmp_eq _ _).mpr q))).symm.trans h
              refine px_ld rfl rfl rfl rfl rfl ?_
              refine px_ldc2 rfl rfl rfl ?_
              refine px_alu rfl rfl rfl ?_
              refine px_ifeq rfl rfl rfl (fun hc => ?_) (fun hc => ?_)
              · replace h := (if_pos ((lg_cmp_eq _ _).mp hc)).symm.trans h
                refine px_forget (n := 0) (lv' := [_, _]) rfl ?_
                exact (r_M_width_66 h :)
              · replace h := (if_neg (fun q => hc ((lg_cmp_eq _ _).mpr q))).symm.trans h
                refine px_ld rfl rfl rfl rfl rfl ?_
                obtain ⟨t1, ph2, h0, h⟩ := xb_some h
                refine px_cS1 rfl rfl rfl rfl rfl rfl rfl (r_M_isSlotted h0 :) (fun _ _ q => nomatch q.2) (fun r ph' q => ?_)
                obtain ⟨rfl, q⟩ := q
                cases q
                refine px_ifeq rfl rfl rfl (fun hc => ?_) (fun hc => ?_)
                · replace h := (if_pos hc).symm.trans h
                  refine px_ld rfl rfl rfl rfl rfl ?_
                  refine px_alu rfl rfl rfl ?_
                  refine px_alu rfl rfl rfl ?_
                  refine px_ifne rfl rfl rfl (fun hc => ?_) (fun hc => ?_)
                  · replace h := (if_neg (fun q => hc ((lg_cmp_eq _ _).mpr q))).symm.trans h
                    refine px_alu rfl rfl rfl ?_
                    refine px_forget (n := 0) (lv' := [_, _]) rfl ?_
                    exact (r_M_width_81 h :)
                  · replace h := (if_pos ((lg_cmp_eq _ _).mp hc)).symm.trans h
                    refine px_ic (k := 0) rfl rfl rfl ?_
                    refine px_goto rfl rfl rfl ?_
                    refine px_forget (n := 0) (lv' := [_, _]) rfl ?_
                    exact (r_M_width_81 h :)
                · replace h := (if_neg hc).symm.trans h
                  refine px_forget (n := 0) (lv' := [_, _]) rfl ?_
                  exact (r_M_width_66 h :)
    · replace h := (if_pos ((lg_cmp_eq _ _).mp hc)).symm.trans h
      refine px_forget (n := 0) (lv' := [_, _]) rfl ?_
      exact (r_M_width_14 h :)
def f_M_isSite_274 (F : Nat) (a7 : Int32) (ph : px_H) : Option (Int32 × px_H) :=
  xz a7 ph
theorem r_M_isSite_274 {l : Launch} {g : px_G} {d F : Nat} {a7 : Int32} {ph : px_H} {r : Int32} {ph' : px_H} (h : f_M_isSite_274 F a7 ph = some (r, ph')) : PW l g (d + 5) m_M_isSite 274 [px_u, px_u, px_u, px_u, px_u, px_u, px_u, .int a7, px_u, px_u, px_u, px_u] [] ph (px_qI r ph') := by
  unfold f_M_isSite_274 at h
  refine px_ld rfl rfl rfl rfl rfl ?_
  obtain ⟨e0, e1, e2⟩ := xz_some h
  subst e1 e2
  exact px_iret rfl (Or.inr ⟨rfl, e0⟩) rfl ⟨rfl, rfl⟩
def f_M_isSite_268 (F : Nat) (k113 : Nat → Int32 → Int32 → Int32 → Int32 → Int32 → Int32 → Int32 → Int32 → px_H → Option (Int32 × px_H)) (a0 : Nat) (a1 : Int32) (a2 : Int32) (a3 : Int32) (a4 : Int32) (a5 : Int32) (a6 : Int32) (a7 : Int32) (a8 : Int32) (ph : px_H) : Option (Int32 × px_H) :=
  k113 a0 a1 a2 a3 a4 a5 a6 a7 (a8 + nI 1) ph
theorem r_M_isSite_268 {l : Launch} {g : px_G} {d F : Nat} {k113 : Nat → Int32 → Int32 → Int32 → Int32 → Int32 → Int32 → Int32 → Int32 → px_H → Option (Int32 × px_H)} (hk113 : ∀ {a0 : Nat} {a1 : Int32} {a2 : Int32} {a3 : Int32} {a4 : Int32} {a5 : Int32} {a6 : Int32} {a7 : Int32} {a8 : Int32} {ph : px_H} {r : Int32} {ph' : px_H}, k113 a0 a1 a2 a3 a4 a5 a6 a7 a8 ph = some (r, ph') → PW l g (d + 5) m_M_isSite 113 [.ref a0, .int a1, .int a2, .int a3, .int a4, .int a5, .int a6, .int a7, .int a8, px_u, px_u, px_u] [] ph (px_qI r ph')) {a0 : Nat} {a1 : Int32} {a2 : Int32} {a3 : Int32} {a4 : Int32} {a5 : Int32} {a6 : Int32} {a7 : Int32} {a8 : Int32} {ph : px_H} {r : Int32} {ph' : px_H} (h : f_M_isSite_268 F k113 a0 a1 a2 a3 a4 a5 a6 a7 a8 ph = some (r, ph')) : PW l g (d + 5) m_M_isSite 268 [.ref a0, .int a1, .int a2, .int a3, .int a4, .int a5, .int a6, .int a7, .int a8, px_u, px_u, px_u] [] ph (px_qI r ph') := by
  unfold f_M_isSite_268 at h
  refine px_iinc (lv' := [_, _, _, _, _, _, _, _, _, _, _, _]) rfl rfl rfl rfl rfl rfl ?_
  refine px_goto rfl (by decide) rfl ?_
  exact (hk113 h :)
def f_M_isSite_260 (F : Nat) (k113 : Nat → Int32 → Int32 → Int32 → Int32 → Int32 → Int32 → Int32 → Int32 → px_H → Option (Int32 × px_H)) (k149 : Nat → Int32 → Int32 → Int32 → Int32 → Int32 → Int32 → Int32 → Int32 → Int32 → px_H → Option (Int32 × px_H)) (a0 : Nat) (a1 : Int32) (a2 : Int32) (a3 : Int32) (a4 : Int32) (a5 : Int32) (a6 : Int32) (a8 : Int32) (a9 : Int32) (s0 : Int32) (ph : px_H) : Option (Int32 × px_H) :=
  k149 a0 a1 a2 a3 a4 a5 a6 s0 a8 (a9 + nI 1) ph
theorem r_M_isSite_260 {l : Launch} {g : px_G} {d F : Nat} {k113 : Nat → Int32 → Int32 → Int32 → Int32 → Int32 → Int32 → Int32 → Int32 → px_H → Option (Int32 × px_H)} (hk113 : ∀ {a0 : Nat} {a1 : Int32} {a2 : Int32} {a3 : Int32} {a4 : Int32} {a5 : Int32} {a6 : Int32} {a7 : Int32} {a8 : Int32} {ph : px_H} {r : Int32} {ph' : px_H}, k113 a0 a1 a2 a3 a4 a5 a6 a7 a8 ph = some (r, ph') → PW l g (d + 5) m_M_isSite 113 [.ref a0, .int a1, .int a2, .int a3, .int a4, .int a5, .int a6, .int a7, .int a8, px_u, px_u, px_u] [] ph (px_qI r ph')) {k149 : Nat → Int32 → Int32 → Int32 → Int32 → Int32 → Int32 → Int32 → Int32 → Int32 → px_H → Option (Int32 × px_H)} (hk149 : ∀ {a0 : Nat} {a1 : Int32} {a2 : Int32} {a3 : Int32} {a4 : Int32} {a5 : Int32} {a6 : Int32} {a7 : Int32} {a8 : Int32} {a9 : Int32} {ph : px_H} {r : Int32} {ph' : px_H}, k149 a0 a1 a2 a3 a4 a5 a6 a7 a8 a9 ph = some (r, ph') → PW l g (d + 5) m_M_isSite 149 [.ref a0, .int a1, .int a2, .int a3, .int a4, .int a5, .int a6, .int a7, .int a8, .int a9, px_u, px_u] [] ph (px_qI r ph')) {a0 : Nat} {a1 : Int32} {a2 : Int32} {a3 : Int32} {a4 : Int32} {a5 : Int32} {a6 : Int32} {a8 : Int32} {a9 : Int32} {s0 : Int32} {ph : px_H} {r : Int32} {ph' : px_H} (h : f_M_isSite_260 F k113 k149 a0 a1 a2 a3 a4 a5 a6 a8 a9 s0 ph = some (r, ph')) : PW l g (d + 5) m_M_isSite 260 [.ref a0, .int a1, .int a2, .int a3, .int a4, .int a5, .int a6, px_u, .int a8, .int a9, px_u, px_u] [.int s0] ph (px_qI r ph') := by
  unfold f_M_isSite_260 at h
  refine px_st (lv' := [_, _, _, _, _, _, _, _, _, _, _, _]) rfl rfl rfl rfl rfl rfl rfl ?_
  refine px_iinc (lv' := [_, _, _, _, _, _, _, _, _, _, _, _]) rfl rfl rfl rfl rfl rfl ?_
  refine px_goto rfl (by decide) rfl ?_
  exact (hk149 h :)
def f_M_isSite_259 (F : Nat) (k113 : Nat → Int32 → Int32 → Int32 → Int32 → Int32 → Int32 → Int32 → Int32 → px_H → Option (Int32 × px_H)) (k149 : Nat → Int32 → Int32 → Int32 → Int32 → Int32 → Int32 → Int32 → Int32 → Int32 → px_H → Option (Int32 × px_H)) (a0 : Nat) (a1 : Int32) (a2 : Int32) (a3 : Int32) (a4 : Int32) (a5 : Int32) (a6 : Int32) (a8 : Int32) (a9 : Int32) (ph : px_H) : Option (Int32 × px_H) :=
  f_M_isSite_260 F k113 k149 a0 a1 a2 a3 a4 a5 a6 a8 a9 (nI 0) ph
theorem r_M_isSite_259 {l : Launch} {g : px_G} {d F : Nat} {k113 : Nat → Int32 → Int32 → Int32 → Int32 → Int32 → Int32 → Int32 → Int32 → px_H → Option (Int32 × px_H)} (hk113 : ∀ {a0 : Nat} {a1 : Int32} {a2 : Int32} {a3 : Int32} {a4 : Int32} {a5 : Int32} {a6 : Int32} {a7 : Int32} {a8 : Int32} {ph : px_H} {r : Int32} {ph' : px_H}, k113 a0 a1 a2 a3 a4 a5 a6 a7 a8 ph = some (r, ph') → PW l g (d + 5) m_M_isSite 113 [.ref a0, .int a1, .int a2, .int a3, .int a4, .int a5, .int a6, .int a7, .int a8, px_u, px_u, px_u] [] ph (px_qI r ph')) {k149 : Nat → Int32 → Int32 → Int32 → Int32 → Int32 → Int32 → Int32 → Int32 → Int32 → px_H → Option (Int32 × px_H)} (hk149 : ∀ {a0 : Nat} {a1 : Int32} {a2 : Int32} {a3 : Int32} {a4 : Int32} {a5 : Int32} {a6 : Int32} {a7 : Int32} {a8 : Int32} {a9 : Int32} {ph : px_H} {r : Int32} {ph' : px_H}, k149 a0 a1 a2 a3 a4 a5 a6 a7 a8 a9 ph = some (r, ph') → PW l g (d + 5) m_M_isSite 149 [.ref a0, .int a1, .int a2, .int a3, .int a4, .int a5, .int a6, .int a7, .int a8, .int a9, px_u, px_u] [] ph (px_qI r ph')) {a0 : Nat} {a1 : Int32} {a2 : Int32} {a3 : Int32} {a4 : Int32} {a5 : Int32} {a6 : Int32} {a8 : Int32} {a9 : Int32} {ph : px_H} {r : Int32} {ph' : px_H} (h : f_M_isSite_259 F k113 k149 a0 a1 a2 a3 a4 a5 a6 a8 a9 ph = some (r, ph')) : PW l g (d + 5) m_M_isSite 259 [.ref a0, .int a1, .int a2, .int a3, .int a4, .int a5, .int a6, px_u, .int a8, .int a9, px_u, px_u] [] ph (px_qI r ph') := by
  unfold f_M_isSite_259 at h
  refine px_ic (k := 0) rfl rfl rfl ?_
  exact (r_M_isSite_260 @hk113 @hk149 h :)
def f_M_isSite_255 (F : Nat) (k113 : Nat → Int32 → Int32 → Int32 → Int32 → Int32 → Int32 → Int32 → Int32 → px_H → Option (Int32 × px_H)) (k149 : Nat → Int32 → Int32 → Int32 → Int32 → Int32 → Int32 → Int32 → Int32 → Int32 → px_H → Option (Int32 × px_H)) (a0 : Nat) (a1 : Int32) (a2 : Int32) (a3 : Int32) (a4 : Int32) (a5 : Int32) (a6 : Int32) (a8 : Int32) (a9 : Int32) (ph : px_H) : Option (Int32 × px_H) :=
  f_M_isSite_260 F k113 k149 a0 a1 a2 a3 a4 a5 a6 a8 a9 (nI 1) ph
theorem r_M_isSite_255 {l : Launch} {g : px_G} {d F : Nat} {k113 : Nat → Int32 → Int32 → Int32 → Int32 → Int32 → Int32 → Int32 → Int32 → px_H → Option (Int32 × px_H)} (hk113 : ∀ {a0 : Nat} {a1 : Int32} {a2 : Int32} {a3 : Int32} {a4 : Int32} {a5 : Int32} {a6 : Int32} {a7 : Int32} {a8 : Int32} {ph : px_H} {r : Int32} {ph' : px_H}, k113 a0 a1 a2 a3 a4 a5 a6 a7 a8 ph = some (r, ph') → PW l g (d + 5) m_M_isSite 113 [.ref a0, .int a1, .int a2, .int a3, .int a4, .int a5, .int a6, .int a7, .int a8, px_u, px_u, px_u] [] ph (px_qI r ph')) {k149 : Nat → Int32 → Int32 → Int32 → Int32 → Int32 → Int32 → Int32 → Int32 → Int32 → px_H → Option (Int32 × px_H)} (hk149 : ∀ {a0 : Nat} {a1 : Int32} {a2 : Int32} {a3 : Int32} {a4 : Int32} {a5 : Int32} {a6 : Int32} {a7 : Int32} {a8 : Int32} {a9 : Int32} {ph : px_H} {r : Int32} {ph' : px_H}, k149 a0 a1 a2 a3 a4 a5 a6 a7 a8 a9 ph = some (r, ph') → PW l g (d + 5) m_M_isSite 149 [.ref a0, .int a1, .int a2, .int a3, .int a4, .int a5, .int a6, .int a7, .int a8, .int a9, px_u, px_u] [] ph (px_qI r ph')) {a0 : Nat} {a1 : Int32} {a2 : Int32} {a3 : Int32} {a4 : Int32} {a5 : Int32} {a6 : Int32} {a8 : Int32} {a9 : Int32} {ph : px_H} {r : Int32} {ph' : px_H} (h : f_M_isSite_255 F k113 k149 a0 a1 a2 a3 a4 a5 a6 a8 a9 ph = some (r, ph')) : PW l g (d + 5) m_M_isSite 255 [.ref a0, .int a1, .int a2, .int a3, .int a4, .int a5, .int a6, px_u, .int a8, .int a9, px_u, px_u] [] ph (px_qI r ph') := by
  unfold f_M_isSite_255 at h
  refine px_ic (k := 1) rfl rfl rfl ?_
  refine px_goto rfl (by decide) rfl ?_
  exact (r_M_isSite_260 @hk113 @hk149 h :)
def f_M_isSite_168 (F : Nat) (k113 : Nat → Int32 → Int32 → Int32 → Int32 → Int32 → Int32 → Int32 → Int32 → px_H → Option (Int32 × px_H)) (k149 : Nat → Int32 → Int32 → Int32 → Int32 → Int32 → Int32 → Int32 → Int32 → Int32 → px_H → Option (Int32 × px_H)) (a0 : Nat) (a1 : Int32) (a2 : Int32) (a3 : Int32) (a4 : Int32) (a5 : Int32) (a6 : Int32) (a7 : Int32) (a8 : Int32) (a9 : Int32) (s0 : Int32) (s1 : Int32) (ph : px_H) : Option (Int32 × px_H) :=
  if s1 ≤ s0 then
    f_M_isSite_268 F k113 a0 a1 a2 a3 a4 a5 a6 a7 a8 ph
  else
    (xo ph 12 a0).bind fun _ =>
    xb (f_M_site F a0 a1 a8 a9 ph) fun t1 ph2 =>
    (xo ph2 12 a0).bind fun _ =>
    xb (f_M_num F a0 (t1 + (nI 8)) (nI 4) ph2) fun t3 ph4 =>
    xb (f_M_width F t3 ph4) fun t5 ph6 =>
    if a7 = 0 then
      f_M_isSite_259 F k113 k149 a0 a1 a2 a3 a4 a5 a6 a8 a9 ph6
    else
      if t5 = 0 then
        f_M_isSite_255 F k113 k149 a0 a1 a2 a3 a4 a5 a6 a8 a9 ph6
      else
        (xo ph6 12 a0).bind fun _ =>
        xb (f_M_num F a0 t1 (nI 8) ph6) fun t7 ph8 =>
        (xo ph8 12 a0).bind fun _ =>
        xb (f_M_num F a0 a4 (nI 8) ph8) fun t9 ph10 =>
        if (t7 + t5.toInt64) ≤ t9 then
          f_M_isSite_255 F k113 k149 a0 a1 a2 a3 a4 a5 a6 a8 a9 ph10
        else
          (xo ph10 12 a0).bind fun _ =>
          xb (f_M_num F a0 a4 (nI 8) ph10) fun t11 ph12 =>
          (xo ph12 12 a0).bind fun _ =>
          xb (f_M_num F a0 t1 (nI 8) ph12) fun t13 ph14 =>
          if t13 < (t11 + a5.toInt64) then
            f_M_isSite_259 F k113 k149 a0 a1 a2 a3 a4 a5 a6 a8 a9 ph14
          else
            f_M_isSite_255 F k113 k149 a0 a1 a2 a3 a4 a5 a6 a8 a9 ph14
theorem r_M_isSite_168 {l : Launch} {g : px_G} {d F : Nat} {k113 : Nat → Int32 → Int32 → Int32 → Int32 → Int32 → Int32 → Int32 → Int32 → px_H → Option (Int32 × px_H)} (hk113 : ∀ {a0 : Nat} {a1 : Int32} {a2 : Int32} {a3 : Int32} {a4 : Int32} {a5 : Int32} {a6 : Int32} {a7 : Int32} {a8 : Int32} {ph : px_H} {r : Int32} {ph' : px_H}, k113 a0 a1 a2 a3 a4 a5 a6 a7 a8 ph = some (r, ph') → PW l g (d + 5) m_M_isSite 113 [.ref a0, .int a1, .int a2, .int a3, .int a4, .int a5, .int a6, .int a7, .int a8, px_u, px_u, px_u] [] ph (px_qI r ph')) {k149 : Nat → Int32 → Int32 → Int32 → Int32 → Int32 → Int32 → Int32 → Int32 → Int32 → px_H → Option (Int32 × px_H)} (hk149 : ∀ {a0 : Nat} {a1 : Int32} {a2 : Int32} {a3 : Int32} {a4 : Int32} {a5 : Int32} {a6 : Int32} {a7 : Int32} {a8 : Int32} {a9 : Int32} {ph : px_H} {r : Int32} {ph' : px_H}, k149 a0 a1 a2 a3 a4 a5 a6 a7 a8 a9 ph = some (r, ph') → PW l g (d + 5) m_M_isSite 149 [.ref a0, .int a1, .int a2, .int a3, .int a4, .int a5, .int a6, .int a7, .int a8, .int a9, px_u, px_u] [] ph (px_qI r ph')) {a0 : Nat} {a1 : Int32} {a2 : Int32} {a3 : Int32} {a4 : Int32} {a5 : Int32} {a6 : Int32} {a7 : Int32} {a8 : Int32} {a9 : Int32} {s0 : Int32} {s1 : Int32} {ph : px_H} {r : Int32} {ph' : px_H} (h : f_M_isSite_168 F k113 k149 a0 a1 a2 a3 a4 a5 a6 a7 a8 a9 s0 s1 ph = some (r, ph')) : PW l g (d + 5) m_M_isSite 168 [.ref a0, .int a1, .int a2, .int a3, .int a4, .int a5, .int a6, .int a7, .int a8, .int a9, px_u, px_u] [.int s1, .int s0] ph (px_qI r ph') := by
  unfold f_M_isSite_168 at h
  refine px_icge rfl (by decide) rfl (fun hc => ?_) (fun hc => ?_)
  · replace h := (if_pos hc).symm.trans h
    refine px_forget (n := 9) (lv' := [_, _, _, _, _, _, _, _, _, _, _, _]) rfl ?_
    exact (r_M_isSite_268 @hk113 h :)
  · replace h := (if_neg hc).symm.trans h
    refine px_ld rfl rfl rfl rfl rfl ?_
    refine px_ld rfl rfl rfl rfl rfl ?_
    refine px_ld rfl rfl rfl rfl rfl ?_
    refine px_ld rfl rfl rfl rfl rfl ?_
    obtain ⟨fs, h0, h⟩ := xs_some h
    have e1 := xo_some h0
    obtain ⟨t1, ph2, h0, h⟩ := xb_some h
    refine px_cV3 rfl rfl e1 rfl rfl rfl rfl rfl rfl rfl (r_M_site h0 :) (fun _ _ q => nomatch q.2) (fun r ph' q => ?_)
    obtain ⟨rfl, q⟩ := q
    cases q
    refine px_st (lv' := [_, _, _, _, _, _, _, _, _, _, _, _]) rfl rfl rfl rfl rfl rfl rfl ?_
    refine px_ld rfl rfl rfl rfl rfl ?_
    refine px_ld rfl rfl rfl rfl rfl ?_
    refine px_ic (k := 8) rfl rfl rfl ?_
    refine px_alu rfl rfl rfl ?_
    refine px_ic (k := 4) rfl rfl rfl ?_
    obtain ⟨fs, h0, h⟩ := xs_some h
    have e1 := xo_some h0
    obtain ⟨t3, ph4, h0, h⟩ := xb_some h
    refine px_cV2 rfl rfl e1 rfl rfl rfl rfl rfl rfl rfl (r_M_num h0 :) (fun _ _ q => nomatch q.2) (fun r ph' q => ?_)
    obtain ⟨rfl, q⟩ := q
    cases q
    obtain ⟨t5, ph6, h0, h⟩ := xb_some h
    refine px_cS1 rfl rfl rfl rfl rfl rfl rfl (r_M_width h0 :) (fun _ _ q => nomatch q.2) (fun r ph' q => ?_)
    obtain ⟨rfl, q⟩ := q
    cases q
    refine px_st (lv' := [_, _, _, _, _, _, _, _, _, _, _, _]) rfl rfl rfl rfl rfl rfl rfl ?_
    refine px_ld rfl rfl rfl rfl rfl ?_
    refine px_ifeq rfl (by decide) rfl (fun hc => ?_) (fun hc => ?_)
    · replace h := (if_pos hc).symm.trans h
      refine px_forget (n := 7) (lv' := [_, _, _, _, _, _, _, _, _, _, _, _]) rfl ?_
      refine px_forget (n := 10) (lv' := [_, _, _, _, _, _, _, _, _, _, _, _]) rfl ?_
      refine px_forget (n := 11) (lv' := [_, _, _, _, _, _, _, _, _, _, _, _]) rfl ?_
      exact (r_M_isSite_259 @hk113 @hk149 h :)
    · replace h := (if_neg hc).symm.trans h
      refine px_ld rfl rfl rfl rfl rfl ?_
      refine px_ifeq rfl (by decide) rfl (fun hc => ?_) (fun hc => ?_)
      · replace h := (if_pos hc).symm.trans h
        refine px_forget (n := 7) (lv' := [_, _, _, _, _, _, _, _, _, _, _, _]) rfl ?_
        refine px_forget (n := 10) (lv' := [_, _, _, _, _, _, _, _, _, _, _, _]) rfl ?_
        refine px_forget (n := 11) (lv' := [_, _, _, _, _, _, _, _, _, _, _, _]) rfl ?_
        exact (r_M_isSite_255 @hk113 @hk149 h :)
      · replace h := (if_neg hc).symm.trans h
        refine px_ld rfl rfl rfl rfl rfl ?_
        refine px_ld rfl rfl rfl rfl rfl ?_
        refine px_ic (k := 8) rfl rfl rfl ?_
        obtain ⟨fs, h0, h⟩ := xs_some h
        have e1 := xo_some h0
        obtain ⟨t7, ph8, h0, h⟩ := xb_some h
        refine px_cV2 rfl rfl e1 rfl rfl rfl rfl rfl rfl rfl (r_M_num h0 :) (fun _ _ q => nomatch q.2) (fun r ph' q => ?_)
        obtain ⟨rfl, q⟩ := q
        cases q
        refine px_ld rfl rfl rfl rfl rfl ?_
        refine px_alu rfl rfl rfl ?_
        refine px_alu rfl rfl rfl ?_
        refine px_ld rfl rfl rfl rfl rfl ?_
        refine px_ld rfl rfl rfl rfl rfl ?_
        refine px_ic (k := 8) rfl rfl rfl ?_
        obtain ⟨fs, h0, h⟩ := xs_some h
        have e1 := xo_some h0
        obtain ⟨t9, ph10, h0, h⟩ := xb_some h
        refine px_cV2 rfl rfl e1 rfl rfl rfl rfl rfl rfl rfl (r_M_num h0 :) (fun _ _ q => nomatch q.2) (fun r ph' q => ?_)
        obtain ⟨rfl, q⟩ := q
        cases q
        refine px_alu rfl rfl rfl ?_
        refine px_ifle rfl (by decide) rfl (fun hc => ?_) (fun hc => ?_)
        · replace h := (if_pos ((lg_cmp_le _ _).mp hc)).symm.trans h
          refine px_forget (n := 7) (lv' := [_, _, _, _, _, _, _, _, _, _, _, _]) rfl ?_
          refine px_forget (n := 10) (lv' := [_, _, _, _, _, _, _, _, _, _, _, _]) rfl ?_
          refine px_forget (n := 11) (lv' := [_, _, _, _, _, _, _, _, _, _, _, _]) rfl ?_
          exact (r_M_isSite_255 @hk113 @hk149 h :)
        · replace h := (if_neg (fun q => hc ((lg_cmp_le _ _).mpr q))).symm.trans h
          refine px_ld rfl rfl rfl rfl rfl ?_
          refine px_ld rfl rfl rfl rfl rfl ?_
          refine px_ic (k := 8) rfl rfl rfl ?_
          obtain ⟨fs, h0, h⟩ := xs_some h
          have e1 := xo_some h0
          obtain ⟨t11, ph12, h0, h⟩ := xb_some h
          refine px_cV2 rfl rfl e1 rfl rfl rfl rfl rfl rfl rfl (r_M_num h0 :) (fun _ _ q => nomatch q.2) (fun r ph' q => ?_)
          obtain ⟨rfl, q⟩ := q
          cases q
          refine px_ld rfl rfl rfl rfl rfl ?_
          refine px_alu rfl rfl rfl ?_
          refine px_alu rfl rfl rfl ?_
          refine px_ld rfl rfl rfl rfl rfl ?_
          refine px_ld rfl rfl rfl rfl rfl ?_
          refine px_ic (k := 8) rfl rfl rfl ?_
          obtain ⟨fs, h0, h⟩ := xs_some h
          have e1 := xo_some h0
          obtain ⟨t13, ph14, h0, h⟩ := xb_some h
          refine px_cV2 rfl rfl e1 rfl rfl rfl rfl rfl rfl rfl (r_M_num h0 :) (fun _ _ q => nomatch q.2) (fun r ph' q => ?_)
          obtain ⟨rfl, q⟩ := q
          cases q
          refine px_alu rfl rfl rfl ?_
          refine px_ifgt rfl (by decide) rfl (fun hc => ?_) (fun hc => ?_)
          · replace h := (if_pos ((lg_cmp_gt _ _).mp hc)).symm.trans h
            refine px_forget (n := 7) (lv' := [_, _, _, _, _, _, _, _, _, _, _, _]) rfl ?_
            refine px_forget (n := 10) (lv' := [_, _, _, _, _, _, _, _, _, _, _, _]) rfl ?_
            refine px_forget (n := 11) (lv' := [_, _, _, _, _, _, _, _, _, _, _, _]) rfl ?_
            exact (r_M_isSite_259 @hk113 @hk149 h :)
          · replace h := (if_neg (fun q => hc ((lg_cmp_gt _ _).mpr q))).symm.trans h
            refine px_forget (n := 7) (lv' := [_, _, _, _, _, _, _, _, _, _, _, _]) rfl ?_
            refine px_forget (n := 10) (lv' := [_, _, _, _, _, _, _, _, _, _, _, _]) rfl ?_
            refine px_forget (n := 11) (lv' := [_, _, _, _, _, _, _, _, _, _, _, _]) rfl ?_
            exact (r_M_isSite_255 @hk113 @hk149 h :)
def f_M_isSite_149 (F : Nat) (k113 : Nat → Int32 → Int32 → Int32 → Int32 → Int32 → Int32 → Int32 → Int32 → px_H → Option (Int32 × px_H)) : Nat → Nat → Int32 → Int32 → Int32 → Int32 → Int32 → Int32 → Int32 → Int32 → Int32 → px_H → Option (Int32 × px_H)
  | 0, _, _, _, _, _, _, _, _, _, _, _ => none
  | n + 1, a0, a1, a2, a3, a4, a5, a6, a7, a8, a9, ph =>
    if a2 ≤ a8 then
      f_M_isSite_168 F k113 (f_M_isSite_149 F k113 n) a0 a1 a2 a3 a4 a5 a6 a7 a8 a9 a9 a3 ph
    else
      (xo ph 12 a0).bind fun _ =>
      xb (f_M_siteMany F a0 a1 a8 ph) fun t1 ph2 =>
      f_M_isSite_168 F k113 (f_M_isSite_149 F k113 n) a0 a1 a2 a3 a4 a5 a6 a7 a8 a9 a9 t1 ph2
theorem r_M_isSite_149 {l : Launch} {g : px_G} {d F : Nat} {k113 : Nat → Int32 → Int32 → Int32 → Int32 → Int32 → Int32 → Int32 → Int32 → px_H → Option (Int32 × px_H)} (hk113 : ∀ {a0 : Nat} {a1 : Int32} {a2 : Int32} {a3 : Int32} {a4 : Int32} {a5 : Int32} {a6 : Int32} {a7 : Int32} {a8 : Int32} {ph : px_H} {r : Int32} {ph' : px_H}, k113 a0 a1 a2 a3 a4 a5 a6 a7 a8 ph = some (r, ph') → PW l g (d + 5) m_M_isSite 113 [.ref a0, .int a1, .int a2, .int a3, .int a4, .int a5, .int a6, .int a7, .int a8, px_u, px_u, px_u] [] ph (px_qI r ph')) : ∀ (n : Nat) {a0 : Nat} {a1 : Int32} {a2 : Int32} {a3 : Int32} {a4 : Int32} {a5 : Int32} {a6 : Int32} {a7 : Int32} {a8 : Int32} {a9 : Int32} {ph : px_H} {r : Int32} {ph' : px_H}, f_M_isSite_149 F k113 n a0 a1 a2 a3 a4 a5 a6 a7 a8 a9 ph = some (r, ph') → PW l g (d + 5) m_M_isSite 149 [.ref a0, .int a1, .int a2, .int a3, .int a4, .int a5, .int a6, .int a7, .int a8, .int a9, px_u, px_u] [] ph (px_qI r ph') := by
  intro n
  induction n with
  | zero => intro _ _ _ _ _ _ _ _ _ _ _ _ _ h; cases h
  | succ n ih =>
    intro a0 a1 a2 a3 a4 a5 a6 a7 a8 a9 ph r ph' h
    unfold f_M_isSite_149 at h
    refine px_ld rfl rfl rfl rfl rfl ?_
    refine px_ld rfl rfl rfl rfl rfl ?_
    refine px_ld rfl rfl rfl rfl rfl ?_
    refine px_icge rfl (by decide) rfl (fun hc => ?_) (fun hc => ?_)
    · replace h := (if_pos hc).symm.trans h
      refine px_ld rfl rfl rfl rfl rfl ?_
      exact (r_M_isSite_168 @hk113 @ih h :)
    · replace h := (if_neg hc).symm.trans h
      refine px_ld rfl rfl rfl rfl rfl ?_
      refine px_ld rfl rfl rfl rfl rfl ?_
      refine px_ld rfl rfl rfl rfl rfl ?_
      obtain ⟨fs, h0, h⟩ := xs_some h
      have e1 := xo_some h0
      obtain ⟨t1, ph2, h0, h⟩ := xb_some h
      refine px_cV2 rfl rfl e1 rfl rfl rfl rfl rfl rfl rfl (r_M_siteMany h0 :) (fun _ _ q => nomatch q.2) (fun r ph' q => ?_)
      obtain ⟨rfl, q⟩ := q
      cases q
      refine px_goto rfl (by decide) rfl ?_
      exact (r_M_isSite_168 @hk113 @ih h :)
def f_M_isSite_113 (F : Nat) : Nat → Nat → Int32 → Int32 → Int32 → Int32 → Int32 → Int32 → Int32 → Int32 → px_H → Option (Int32 × px_H)
  | 0, _, _, _, _, _, _, _, _, _, _ => none
  | n + 1, a0, a1, a2, a3, a4, a5, a6, a7, a8, ph =>
    if a2 < a8 then
      f_M_isSite_274 F a7 ph
    else
      (xo ph 12 a0).bind fun _ =>
      xb (f_M_isSites F a0 a1 a8 ph) fun t1 ph2 =>
      if t1 = 0 then
        f_M_isSite_268 F (f_M_isSite_113 F n) a0 a1 a2 a3 a4 a5 a6 a7 a8 ph2
      else
        (xo ph2 12 a0).bind fun _ =>
        xb (f_M_info F a0 a1 a8 ph2) fun t3 ph4 =>
        if t3 = a6.toInt64 then
          f_M_isSite_149 F (f_M_isSite_113 F n) F a0 a1 a2 a3 a4 a5 a6 a7 a8 (nI 0) ph4
        else
          f_M_isSite_268 F (f_M_isSite_113 F n) a0 a1 a2 a3 a4 a5 a6 a7 a8 ph4
theorem r_M_isSite_113 {l : Launch} {g : px_G} {d F : Nat} : ∀ (n : Nat) {a0 : Nat} {a1 : Int32} {a2 : Int32} {a3 : Int32} {a4 : Int32} {a5 : Int32} {a6 : Int32} {a7 : Int32} {a8 : Int32} {ph : px_H} {r : Int32} {ph' : px_H}, f_M_isSite_113 F n a0 a1 a2 a3 a4 a5 a6 a7 a8 ph = some (r, ph') → PW l g (d + 5) m_M_isSite 113 [.ref a0, .int a1, .int a2, .int a3, .int a4, .int a5, .int a6, .int a7, .int a8, px_u, px_u, px_u] [] ph (px_qI r ph') := by
  intro n
  induction n with
  | zero => intro _ _ _ _ _ _ _ _ _ _ _ _ h; cases h
  | succ n ih =>
    intro a0 a1 a2 a3 a4 a5 a6 a7 a8 ph r ph' h
    unfold f_M_isSite_113 at h
    refine px_ld rfl rfl rfl rfl rfl ?_
    refine px_ld rfl rfl rfl rfl rfl ?_
    refine px_icgt rfl (by decide) rfl (fun hc => ?_) (fun hc => ?_)
    · replace h := (if_pos hc).symm.trans h
      refine px_forget (n := 0) (lv' := [_, _, _, _, _, _, _, _, _, _, _, _]) rfl ?_
      refine px_forget (n := 1) (lv' := [_, _, _, _, _, _, _, _, _, _, _, _]) rfl ?_
      refine px_forget (n := 2) (lv' := [_, _, _, _, _, _, _, _, _, _, _, _]) rfl ?_
      refine px_forget (n := 3) (lv' := [_, _, _, _, _, _, _, _, _, _, _, _]) rfl ?_
      refine px_forget (n := 4) (lv' := [_, _, _, _, _, _, _, _, _, _, _, _]) rfl ?_
      refine px_forget (n := 5) (lv' := [_, _, _, _, _, _, _, _, _, _, _, _]) rfl ?_
      refine px_forget (n := 6) (lv' := [_, _, _, _, _, _, _, _, _, _, _, _]) rfl ?_
      refine px_forget (n := 8) (lv' := [_, _, _, _, _, _, _, _, _, _, _, _]) rfl ?_
      exact (r_M_isSite_274 h :)
    · replace h := (if_neg hc).symm.trans h
      refine px_ld rfl rfl rfl rfl rfl ?_
      refine px_ld rfl rfl rfl rfl rfl ?_
      refine px_ld rfl rfl rfl rfl rfl ?_
      obtain ⟨fs, h0, h⟩ := xs_some h
      have e1 := xo_some h0
      obtain ⟨t1, ph2, h0, h⟩ := xb_some h
      refine px_cV2 rfl rfl e1 rfl rfl rfl rfl rfl rfl rfl (r_M_isSites h0 :) (fun _ _ q => nomatch q.2) (fun r ph' q => ?_)
      obtain ⟨rfl, q⟩ := q
      cases q
      refine px_ifeq rfl (by decide) rfl (fun hc => ?_) (fun hc => ?_)
      · replace h := (if_pos hc).symm.trans h
        exact (r_M_isSite_268 @ih h :)
      · replace h := (if_neg hc).symm.trans h
        refine px_ld rfl rfl rfl rfl rfl ?_
        refine px_ld rfl rfl rfl rfl rfl ?_
        refine px_ld rfl rfl rfl rfl rfl ?_
        obtain ⟨fs, h0, h⟩ := xs_some h
        have e1 := xo_some h0
        obtain ⟨t3, ph4, h0, h⟩ := xb_some h
        refine px_cV2 rfl rfl e1 rfl rfl rfl rfl rfl rfl rfl (r_M_info h0 :) (fun _ _ q => nomatch q.2) (fun r ph' q => ?_)
        obtain ⟨rfl, q⟩ := q
        cases q
        refine px_ld rfl rfl rfl rfl rfl ?_
        refine px_alu rfl rfl rfl ?_
        refine px_alu rfl rfl rfl ?_
        refine px_ifeq rfl (by decide) rfl (fun hc => ?_) (fun hc => ?_)
        · replace h := (if_pos ((lg_cmp_eq _ _).mp hc)).symm.trans h
          refine px_ic (k := 0) rfl rfl rfl ?_
          refine px_st (lv' := [_, _, _, _, _, _, _, _, _, _, _, _]) rfl rfl rfl rfl rfl rfl rfl ?_
          exact (r_M_isSite_149 @ih _ h :)
        · replace h := (if_neg (fun q => hc ((lg_cmp_eq _ _).mpr q))).symm.trans h
          refine px_goto rfl (by decide) rfl ?_
          exact (r_M_isSite_268 @ih h :)
def f_M_isSite_105 (F : Nat) (ph : px_H) : Option (Int32 × px_H) :=
  some (nI 0, ph)
theorem r_M_isSite_105 {l : Launch} {g : px_G} {d F : Nat} {ph : px_H} {r : Int32} {ph' : px_H} (h : f_M_isSite_105 F ph = some (r, ph')) : PW l g (d + 5) m_M_isSite 105 [px_u, px_u, px_u, px_u, px_u, px_u, px_u, px_u, px_u, px_u, px_u, px_u] [] ph (px_qI r ph') := by
  unfold f_M_isSite_105 at h
  refine px_ic (k := 0) rfl rfl rfl ?_
  cases h
  exact px_iret rfl (Or.inr ⟨rfl, Or.inl rfl⟩) rfl ⟨rfl, rfl⟩
def f_M_isSite_58 (F : Nat) (ph : px_H) : Option (Int32 × px_H) :=
  some (nI 0, ph)
theorem r_M_isSite_58 {l : Launch} {g : px_G} {d F : Nat} {ph : px_H} {r : Int32} {ph' : px_H} (h : f_M_isSite_58 F ph = some (r, ph')) : PW l g (d + 5) m_M_isSite 58 [px_u, px_u, px_u, px_u, px_u, px_u, px_u, px_u, px_u, px_u, px_u, px_u] [] ph (px_qI r ph') := by
  unfold f_M_isSite_58 at h
  refine px_ic (k := 0) rfl rfl rfl ?_
  cases h
  exact px_iret rfl (Or.inr ⟨rfl, Or.inl rfl⟩) rfl ⟨rfl, rfl⟩
def f_M_isSite (F : Nat) (a0 : Nat) (a1 : Int32) (a2 : Int32) (a3 : Int32) (ph : px_H) : Option (Int32 × px_H) :=
  (xo ph 12 a0).bind fun _ =>
  xb (f_M_site F a0 a1 a2 a3 ph) fun t1 ph2 =>
  (xo ph2 12 a0).bind fun _ =>
  xb (f_M_num F a0 (t1 + (nI 8)) (nI 4) ph2) fun t3 ph4 =>
  xb (f_M_width F t3 ph4) fun t5 ph6 =>
  (xo ph6 12 a0).bind fun _ =>
  xb (f_M_info F a0 a1 a2 ph6) fun t7 ph8 =>
  if t5 < 0 then
    f_M_isSite_58 F ph8
  else
    (xo ph8 12 a0).bind fun _ =>
    xb (f_M_num F a0 (t1 + (nI 12)) (nI 4) ph8) fun t9 ph10 =>
    (xo ph10 12 a0).bind fun _ =>
    xb (f_M_symbolMany F a0 a1 ph10) fun t11 ph12 =>
    if t9 < t11.toInt64 then
      if t5 = 0 then
        some (nI 1, ph12)
      else
        (xo ph12 12 a0).bind fun _ =>
        xb (f_M_type F a0 a1 t7.toInt32 ph12) fun t13 ph14 =>
        if t13 = ((8 : Int64)) then
          f_M_isSite_105 F ph14
        else
          (xo ph14 12 a0).bind fun _ =>
          xb (f_M_num F a0 t1 (nI 8) ph14) fun t15 ph16 =>
          (xo ph16 12 a0).bind fun _ =>
          xb (f_M_size F a0 a1 t7.toInt32 ph16) fun t17 ph18 =>
          xb (f_M_lies F t15 t5.toInt64 t17 ph18) fun t19 ph20 =>
          if t19 = 0 then
            f_M_isSite_105 F ph20
          else
            f_M_isSite_113 F F a0 a1 a2 a3 t1 t5 t7.toInt32 (nI 1) (nI 1) ph20
    else
      f_M_isSite_58 F ph12
theorem r_M_isSite {l : Launch} {g : px_G} {d F : Nat} {a0 : Nat} {a1 : Int32} {a2 : Int32} {a3 : Int32} {ph : px_H} {r : Int32} {ph' : px_H} (h : f_M_isSite F a0 a1 a2 a3 ph = some (r, ph')) : PW l g (d + 5) m_M_isSite 0 [.ref a0, .int a1, .int a2, .int a3, px_u, px_u, px_u, px_u, px_u, px_u, px_u, px_u] [] ph (px_qI r ph') := by
  unfold f_M_isSite at h
  refine px_ld rfl rfl rfl rfl rfl ?_
  refine px_ld rfl rfl rfl rfl rfl ?_
  refine px_ld rfl rfl rfl rfl rfl ?_
  refine px_ld rfl rfl rfl rfl rfl ?_
  obtain ⟨fs, h0, h⟩ := xs_some h
  have e1 := xo_some h0
  obtain ⟨t1, ph2, h0, h⟩ := xb_some h
  refine px_cV3 rfl rfl e1 rfl rfl rfl rfl rfl rfl rfl (r_M_site h0 :) (fun _ _ q => nomatch q.2) (fun r ph' q => ?_)
  obtain ⟨rfl, q⟩ := q
  cases q
  refine px_st (lv' := [_, _, _, _, _, _, _, _, _, _, _, _]) rfl rfl rfl rfl rfl rfl rfl ?_
  refine px_ld rfl rfl rfl rfl rfl ?_
  refine px_ld rfl rfl rfl rfl rfl ?_
  refine px_ic (k := 8) rfl rfl rfl ?_
  refine px_alu rfl rfl rfl ?_
  refine px_ic (k := 4) rfl rfl rfl ?_
  obtain ⟨fs, h0, h⟩ := xs_some h
  have e1 := xo_some h0
  obtain ⟨t3, ph4, h0, h⟩ := xb_some h
  refine px_cV2 rfl rfl e1 rfl rfl rfl rfl rfl rfl rfl (r_M_num h0 :) (fun _ _ q => nomatch q.2) (fun r ph' q => ?_)
  obtain ⟨rfl, q⟩ := q
  cases q
  obtain ⟨t5, ph6, h0, h⟩ := xb_some h
  refine px_cS1 rfl rfl rfl rfl rfl rfl rfl (r_M_width h0 :) (fun _ _ q => nomatch q.2) (fun r ph' q => ?_)
  obtain ⟨rfl, q⟩ := q
  cases q
  refine px_st (lv' := [_, _, _, _, _, _, _, _, _, _, _, _]) rfl rfl rfl rfl rfl rfl rfl ?_
  refine px_ld rfl rfl rfl rfl rfl ?_
  refine px_ld rfl rfl rfl rfl rfl ?_
  refine px_ld rfl rfl rfl rfl rfl ?_
  obtain ⟨fs, h0, h⟩ := xs_some h
  have e1 := xo_some h0
  obtain ⟨t7, ph8, h0, h⟩ := xb_some h
  refine px_cV2 rfl rfl e1 rfl rfl rfl rfl rfl rfl rfl (r_M_info h0 :) (fun _ _ q => nomatch q.2) (fun r ph' q => ?_)
  obtain ⟨rfl, q⟩ := q
  cases q
  refine px_alu rfl rfl rfl ?_
  refine px_st (lv' := [_, _, _, _, _, _, _, _, _, _, _, _]) rfl rfl rfl rfl rfl rfl rfl ?_
  refine px_ld rfl rfl rfl rfl rfl ?_
  refine px_iflt rfl (by decide) rfl (fun hc => ?_) (fun hc => ?_)
  · replace h := (if_pos hc).symm.trans h
    refine px_forget (n := 0) (lv' := [_, _, _, _, _, _, _, _, _, _, _, _]) rfl ?_
    refine px_forget (n := 1) (lv' := [_, _, _, _, _, _, _, _, _, _, _, _]) rfl ?_
    refine px_forget (n := 2) (lv' := [_, _, _, _, _, _, _, _, _, _, _, _]) rfl ?_
    refine px_forget (n := 3) (lv' := [_, _, _, _, _, _, _, _, _, _, _, _]) rfl ?_
    refine px_forget (n := 4) (lv' := [_, _, _, _, _, _, _, _, _, _, _, _]) rfl ?_
    refine px_forget (n := 5) (lv' := [_, _, _, _, _, _, _, _, _, _, _, _]) rfl ?_
    refine px_forget (n := 6) (lv' := [_, _, _, _, _, _, _, _, _, _, _, _]) rfl ?_
    exact (r_M_isSite_58 h :)
  · replace h := (if_neg hc).symm.trans h
    refine px_ld rfl rfl rfl rfl rfl ?_
    refine px_ld rfl rfl rfl rfl rfl ?_
    refine px_ic (k := 12) rfl rfl rfl ?_
    refine px_alu rfl rfl rfl ?_
    refine px_ic (k := 4) rfl rfl rfl ?_
    obtain ⟨fs, h0, h⟩ := xs_some h
    have e1 := xo_some h0
    obtain ⟨t9, ph10, h0, h⟩ := xb_some h
    refine px_cV2 rfl rfl e1 rfl rfl rfl rfl rfl rfl rfl (r_M_num h0 :) (fun _ _ q => nomatch q.2) (fun r ph' q => ?_)
    obtain ⟨rfl, q⟩ := q
    cases q
    refine px_ld rfl rfl rfl rfl rfl ?_
    refine px_ld rfl rfl rfl rfl rfl ?_
    obtain ⟨fs, h0, h⟩ := xs_some h
    have e1 := xo_some h0
    obtain ⟨t11, ph12, h0, h⟩ := xb_some h
    refine px_cV1 rfl rfl e1 rfl rfl rfl rfl rfl rfl rfl (r_M_symbolMany h0 :) (fun _ _ q => nomatch q.2) (fun r ph' q => ?_)
    obtain ⟨rfl, q⟩ := q
    cases q
    refine px_alu rfl rfl rfl ?_
    refine px_alu rfl rfl rfl ?_
    refine px_iflt rfl (by decide) rfl (fun hc => ?_) (fun hc => ?_)
    · replace h := (if_pos ((lg_cmp_lt _ _).mp hc)).symm.trans h
      refine px_ld rfl rfl rfl rfl rfl ?_
      refine px_ifne rfl (by decide) rfl (fun hc => ?_) (fun hc => ?_)
      · replace h := (if_neg hc).symm.trans h
        refine px_ld rfl rfl rfl rfl rfl ?_
        refine px_ld rfl rfl rfl rfl rfl ?_
        refine px_ld rfl rfl rfl rfl rfl ?_
        obtain ⟨fs, h0, h⟩ := xs_some h
        have e1 := xo_some h0
        obtain ⟨t13, ph14, h0, h⟩ := xb_some h
        refine px_cV2 rfl rfl e1 rfl rfl rfl rfl rfl rfl rfl (r_M_type h0 :) (fun _ _ q => nomatch q.2) (fun r ph' q => ?_)
        obtain ⟨rfl, q⟩ := q
        cases q
        refine px_ldc2 rfl rfl rfl ?_
        refine px_alu rfl rfl rfl ?_
        refine px_ifeq rfl (by decide) rfl (fun hc => ?_) (fun hc => ?_)
        · replace h := (if_pos ((lg_cmp_eq _ _).mp hc)).symm.trans h
          refine px_forget (n := 0) (lv' := [_, _, _, _, _, _, _, _, _, _, _, _]) rfl ?_
          refine px_forget (n := 1) (lv' := [_, _, _, _, _, _, _, _, _, _, _, _]) rfl ?_
          refine px_forget (n := 2) (lv' := [_, _, _, _, _, _, _, _, _, _, _, _]) rfl ?_
          refine px_forget (n := 3) (lv' := [_, _, _, _, _, _, _, _, _, _, _, _]) rfl ?_
          refine px_forget (n := 4) (lv' := [_, _, _, _, _, _, _, _, _, _, _, _]) rfl ?_
          refine px_forget (n := 5) (lv' := [_, _, _, _, _, _, _, _, _, _, _, _]) rfl ?_
          refine px_forget (n := 6) (lv' := [_, _, _, _, _, _, _, _, _, _, _, _]) rfl ?_
          exact (r_M_isSite_105 h :)
        · replace h := (if_neg (fun q => hc ((lg_cmp_eq _ _).mpr q))).symm.trans h
          refine px_ld rfl rfl rfl rfl rfl ?_
          refine px_ld rfl rfl rfl rfl rfl ?_
          refine px_ic (k := 8) rfl rfl rfl ?_
          obtain ⟨fs, h0, h⟩ := xs_some h
          have e1 := xo_some h0
          obtain ⟨t15, ph16, h0, h⟩ := xb_some h
          refine px_cV2 rfl rfl e1 rfl rfl rfl rfl rfl rfl rfl (r_M_num h0 :) (fun _ _ q => nomatch q.2) (fun r ph' q => ?_)
          obtain ⟨rfl, q⟩ := q
          cases q
          refine px_ld rfl rfl rfl rfl rfl ?_
          refine px_alu rfl rfl rfl ?_
          refine px_ld rfl rfl rfl rfl rfl ?_
          refine px_ld rfl rfl rfl rfl rfl ?_
          refine px_ld rfl rfl rfl rfl rfl ?_
          obtain ⟨fs, h0, h⟩ := xs_some h
          have e1 := xo_some h0
          obtain ⟨t17, ph18, h0, h⟩ := xb_some h
          refine px_cV2 rfl rfl e1 rfl rfl rfl rfl rfl rfl rfl (r_M_size h0 :) (fun _ _ q => nomatch q.2) (fun r ph' q => ?_)
          obtain ⟨rfl, q⟩ := q
          cases q
          obtain ⟨t19, ph20, h0, h⟩ := xb_some h
          refine px_cS3 rfl rfl rfl rfl rfl rfl rfl (r_M_lies h0 :) (fun _ _ q => nomatch q.2) (fun r ph' q => ?_)
          obtain ⟨rfl, q⟩ := q
          cases q
          refine px_ifne rfl (by decide) rfl (fun hc => ?_) (fun hc => ?_)
          · replace h := (if_neg hc).symm.trans h
            refine px_ic (k := 1) rfl rfl rfl ?_
            refine px_st (lv' := [_, _, _, _, _, _, _, _, _, _, _, _]) rfl rfl rfl rfl rfl rfl rfl ?_
            refine px_ic (k := 1) rfl rfl rfl ?_
            refine px_st (lv' := [_, _, _, _, _, _, _, _, _, _, _, _]) rfl rfl rfl rfl rfl rfl rfl ?_
            exact (r_M_isSite_113 _ h :)
          · replace h := (if_pos hc).symm.trans h
            refine px_forget (n := 0) (lv' := [_, _, _, _, _, _, _, _, _, _, _, _]) rfl ?_
            refine px_forget (n := 1) (lv' := [_, _, _, _, _, _, _, _, _, _, _, _]) rfl ?_
            refine px_forget (n := 2) (lv' := [_, _, _, _, _, _, _, _, _, _, _, _]) rfl ?_
            refine px_forget (n := 3) (lv' := [_, _, _, _, _, _, _, _, _, _, _, _]) rfl ?_
            refine px_forget (n := 4) (lv' := [_, _, _, _, _, _, _, _, _, _, _, _]) rfl ?_
            refine px_forget (n := 5) (lv' := [_, _, _, _, _, _, _, _, _, _, _, _]) rfl ?_
            refine px_forget (n := 6) (lv' := [_, _, _, _, _, _, _, _, _, _, _, _]) rfl ?_
            exact (r_M_isSite_105 h :)
      · replace h := (if_pos hc).symm.trans h
        refine px_ic (k := 1) rfl rfl rfl ?_
        cases h
        exact px_iret rfl (Or.inr ⟨rfl, Or.inr rfl⟩) rfl ⟨rfl, rfl⟩
    · replace h := (if_neg (fun q => hc ((lg_cmp_lt _ _).mpr q))).symm.trans h
      refine px_forget (n := 0) (lv' := [_, _, _, _, _, _, _, _, _, _, _, _]) rfl ?_
      refine px_forget (n := 1) (lv' := [_, _, _, _, _, _, _, _, _, _, _, _]) rfl ?_
      refine px_forget (n := 2) (lv' := [_, _, _, _, _, _, _, _, _, _, _, _]) rfl ?_
      refine px_forget (n := 3) (lv' := [_, _, _, _, _, _, _, _, _, _, _, _]) rfl ?_
      refine px_forget (n := 4) (lv' := [_, _, _, _, _, _, _, _, _, _, _, _]) rfl ?_
      refine px_forget (n := 5) (lv' := [_, _, _, _, _, _, _, _, _, _, _, _]) rfl ?_
      refine px_forget (n := 6) (lv' := [_, _, _, _, _, _, _, _, _, _, _, _]) rfl ?_
      exact (r_M_isSite_58 h :)
def f_M_sitesError_102 (F : Nat) (ph : px_H) : Option (Int32 × px_H) :=
  some (nI 0, ph)
theorem r_M_sitesError_102 {l : Launch} {g : px_G} {d F : Nat} {ph : px_H} {r : Int32} {ph' : px_H} (h : f_M_sitesError_102 F ph = some (r, ph')) : PW l g (d + 6) m_M_sitesError 102 [px_u, px_u, px_u, px_u] [] ph (px_qI r ph') := by
  unfold f_M_sitesError_102 at h
  refine px_ic (k := 0) rfl rfl rfl ?_
  cases h
  exact px_iret rfl (Or.inl rfl) rfl ⟨rfl, rfl⟩
def f_M_sitesError_96 (F : Nat) (k2 : Nat → Int32 → Int32 → px_H → Option (Int32 × px_H)) (a0 : Nat) (a1 : Int32) (a2 : Int32) (ph : px_H) : Option (Int32 × px_H) :=
  k2 a0 a1 (a2 + nI 1) ph
theorem r_M_sitesError_96 {l : Launch} {g : px_G} {d F : Nat} {k2 : Nat → Int32 → Int32 → px_H → Option (Int32 × px_H)} (hk2 : ∀ {a0 : Nat} {a1 : Int32} {a2 : Int32} {ph : px_H} {r : Int32} {ph' : px_H}, k2 a0 a1 a2 ph = some (r, ph') → PW l g (d + 6) m_M_sitesError 2 [.ref a0, .int a1, .int a2, px_u] [] ph (px_qI r ph')) {a0 : Nat} {a1 : Int32} {a2 : Int32} {ph : px_H} {r : Int32} {ph' : px_H} (h : f_M_sitesError_96 F k2 a0 a1 a2 ph = some (r, ph')) : PW l g (d + 6) m_M_sitesError 96 [.ref a0, .int a1, .int a2, px_u] [] ph (px_qI r ph') := by
  unfold f_M_sitesError_96 at h
  refine px_iinc (lv' := [_, _, _, _]) rfl rfl rfl rfl rfl rfl ?_
  refine px_goto rfl (by decide) rfl ?_
  exact (hk2 h :)
def f_M_sitesError_87 (F : Nat) (ph : px_H) : Option (Int32 × px_H) :=
  some (nI 7, ph)
theorem r_M_sitesError_87 {l : Launch} {g : px_G} {d F : Nat} {ph : px_H} {r : Int32} {ph' : px_H} (h : f_M_sitesError_87 F ph = some (r, ph')) : PW l g (d + 6) m_M_sitesError 87 [px_u, px_u, px_u, px_u] [] ph (px_qI r ph') := by
  unfold f_M_sitesError_87 at h
  refine px_ic (k := 7) rfl rfl rfl ?_
  cases h
  exact px_iret rfl (Or.inl rfl) rfl ⟨rfl, rfl⟩
def f_M_sitesError_67 (F : Nat) (k2 : Nat → Int32 → Int32 → px_H → Option (Int32 × px_H)) : Nat → Nat → Int32 → Int32 → Int32 → px_H → Option (Int32 × px_H)
  | 0, _, _, _, _, _ => none
  | n + 1, a0, a1, a2, a3, ph =>
    (xo ph 12 a0).bind fun _ =>
    xb (f_M_siteMany F a0 a1 a2 ph) fun t1 ph2 =>
    if t1 ≤ a3 then
      f_M_sitesError_96 F k2 a0 a1 a2 ph2
    else
      (xo ph2 12 a0).bind fun _ =>
      xb (f_M_isSite F a0 a1 a2 a3 ph2) fun t3 ph4 =>
      if t3 = 0 then
        f_M_sitesError_87 F ph4
      else
        f_M_sitesError_67 F k2 n a0 a1 a2 (a3 + nI 1) ph4
theorem r_M_sitesError_67 {l : Launch} {g : px_G} {d F : Nat} {k2 : Nat → Int32 → Int32 → px_H → Option (Int32 × px_H)} (hk2 : ∀ {a0 : Nat} {a1 : Int32} {a2 : Int32} {ph : px_H} {r : Int32} {ph' : px_H}, k2 a0 a1 a2 ph = some (r, ph') → PW l g (d + 6) m_M_sitesError 2 [.ref a0, .int a1, .int a2, px_u] [] ph (px_qI r ph')) : ∀ (n : Nat) {a0 : Nat} {a1 : Int32} {a2 : Int32} {a3 : Int32} {ph : px_H} {r : Int32} {ph' : px_H}, f_M_sitesError_67 F k2 n a0 a1 a2 a3 ph = some (r, ph') → PW l g (d + 6) m_M_sitesError 67 [.ref a0, .int a1, .int a2, .int a3] [] ph (px_qI r ph') := by
  intro n
  induction n with
  | zero => intro _ _ _ _ _ _ _ h; cases h
  | succ n ih =>
    intro a0 a1 a2 a3 ph r ph' h
    unfold f_M_sitesError_67 at h
    refine px_ld rfl rfl rfl rfl rfl ?_
    refine px_ld rfl rfl rfl rfl rfl ?_
    refine px_ld rfl rfl rfl rfl rfl ?_
    refine px_ld rfl rfl rfl rfl rfl ?_
    obtain ⟨fs, h0, h⟩ := xs_some h
    have e1 := xo_some h0
    obtain ⟨t1, ph2, h0, h⟩ := xb_some h
    refine px_cV2 rfl rfl e1 rfl rfl rfl rfl rfl rfl rfl (r_M_siteMany h0 :) (fun _ _ q => nomatch q.2) (fun r ph' q => ?_)
    obtain ⟨rfl, q⟩ := q
    cases q
    refine px_icge rfl (by decide) rfl (fun hc => ?_) (fun hc => ?_)
    · replace h := (if_pos hc).symm.trans h
      refine px_forget (n := 3) (lv' := [_, _, _, _]) rfl ?_
      exact (r_M_sitesError_96 @hk2 h :)
    · replace h := (if_neg hc).symm.trans h
      refine px_ld rfl rfl rfl rfl rfl ?_
      refine px_ld rfl rfl rfl rfl rfl ?_
      refine px_ld rfl rfl rfl rfl rfl ?_
      refine px_ld rfl rfl rfl rfl rfl ?_
      obtain ⟨fs, h0, h⟩ := xs_some h
      have e1 := xo_some h0
      obtain ⟨t3, ph4, h0, h⟩ := xb_some h
      refine px_cV3 rfl rfl e1 rfl rfl rfl rfl rfl rfl rfl (r_M_isSite h0 :) (fun _ _ q => nomatch q.2) (fun r ph' q => ?_)
      obtain ⟨rfl, q⟩ := q
      cases q
      refine px_ifne rfl (by decide) rfl (fun hc => ?_) (fun hc => ?_)
      · replace h := (if_neg hc).symm.trans h
        refine px_iinc (lv' := [_, _, _, _]) rfl rfl rfl rfl rfl rfl ?_
        refine px_goto rfl (by decide) rfl ?_
        exact (ih h :)
      · replace h := (if_pos hc).symm.trans h
        refine px_forget (n := 0) (lv' := [_, _, _, _]) rfl ?_
        refine px_forget (n := 1) (lv' := [_, _, _, _]) rfl ?_
        refine px_forget (n := 2) (lv' := [_, _, _, _]) rfl ?_
        refine px_forget (n := 3) (lv' := [_, _, _, _]) rfl ?_
        exact (r_M_sitesError_87 h :)
def f_M_sitesError_62 (F : Nat) (ph : px_H) : Option (Int32 × px_H) :=
  some (nI 7, ph)
theorem r_M_sitesError_62 {l : Launch} {g : px_G} {d F : Nat} {ph : px_H} {r : Int32} {ph' : px_H} (h : f_M_sitesError_62 F ph = some (r, ph')) : PW l g (d + 6) m_M_sitesError 62 [px_u, px_u, px_u, px_u] [] ph (px_qI r ph') := by
  unfold f_M_sitesError_62 at h
  refine px_ic (k := 7) rfl rfl rfl ?_
  cases h
  exact px_iret rfl (Or.inl rfl) rfl ⟨rfl, rfl⟩
def f_M_sitesError_2 (F : Nat) : Nat → Nat → Int32 → Int32 → px_H → Option (Int32 × px_H)
  | 0, _, _, _, _ => none
  | n + 1, a0, a1, a2, ph =>
    (xo ph 12 a0).bind fun _ =>
    xb (f_M_sections F a0 a1 ph) fun t1 ph2 =>
    if t1 ≤ a2 then
      f_M_sitesError_102 F ph2
    else
      (xo ph2 12 a0).bind fun _ =>
      xb (f_M_isSites F a0 a1 a2 ph2) fun t3 ph4 =>
      if t3 = 0 then
        f_M_sitesError_96 F (f_M_sitesError_2 F n) a0 a1 a2 ph4
      else
        (xo ph4 12 a0).bind fun _ =>
        xb (f_M_size F a0 a1 a2 ph4) fun t5 ph6 =>
        if (t5 - t5 / ((24 : Int64)) * ((24 : Int64))) = (lN 0) then
          (xo ph6 12 a0).bind fun _ =>
          xb (f_M_symbols F a0 a1 ph6) fun t7 ph8 =>
          if t7 = 0 then
            f_M_sitesError_62 F ph8
          else
            (xo ph8 12 a0).bind fun _ =>
            xb (f_M_linkOf F a0 a1 a2 ph8) fun t9 ph10 =>
            (xo ph10 12 a0).bind fun _ =>
            xb (f_M_symbols F a0 a1 ph10) fun t11 ph12 =>
            if t9 = t11.toInt64 then
              f_M_sitesError_67 F (f_M_sitesError_2 F n) F a0 a1 a2 (nI 0) ph12
            else
              f_M_sitesError_62 F ph12
        else
          f_M_sitesError_62 F ph6
theorem r_M_sitesError_2 {l : Launch} {g : px_G} {d F : Nat} : ∀ (n : Nat) {a0 : Nat} {a1 : Int32} {a2 : Int32} {ph : px_H} {r : Int32} {ph' : px_H}, f_M_sitesError_2 F n a0 a1 a2 ph = some (r, ph') → PW l g (d + 6) m_M_sitesError 2 [.ref a0, .int a1, .int a2, px_u] [] ph (px_qI r ph') := by
  intro n
  induction n with
  | zero => intro _ _ _ _ _ _ h; cases h
  | succ n ih =>
    intro a0 a1 a2 ph r ph' h
    unfold f_M_sitesError_2 at h
    refine px_ld rfl rfl rfl rfl rfl ?_
    refine px_ld rfl rfl rfl rfl rfl ?_
    refine px_ld rfl rfl rfl rfl rfl ?_
    obtain ⟨fs, h0, h⟩ := xs_some h
    have e1 := xo_some h0
    obtain ⟨t1, ph2, h0, h⟩ := xb_some h
    refine px_cV1 rfl rfl e1 rfl rfl rfl rfl rfl rfl rfl (r_M_sections h0 :) (fun _ _ q => nomatch q.2) (fun r ph' q => ?_)
    obtain ⟨rfl, q⟩ := q
    cases q
    refine px_icge rfl (by decide) rfl (fun hc => ?_) (fun hc => ?_)
    · replace h := (if_pos hc).symm.trans h
      refine px_forget (n := 0) (lv' := [_, _, _, _]) rfl ?_
      refine px_forget (n := 1) (lv' := [_, _, _, _]) rfl ?_
      refine px_forget (n := 2) (lv' := [_, _, _, _]) rfl ?_
      exact (r_M_sitesError_102 h :)
    · replace h := (if_neg hc).symm.trans h
      refine px_ld rfl rfl rfl rfl rfl ?_
      refine px_ld rfl rfl rfl rfl rfl ?_
      refine px_ld rfl rfl rfl rfl rfl ?_
      obtain ⟨fs, h0, h⟩ := xs_some h
      have e1 := xo_some h0
      obtain ⟨t3, ph4, h0, h⟩ := xb_some h
      refine px_cV2 rfl rfl e1 rfl rfl rfl rfl rfl rfl rfl (r_M_isSites h0 :) (fun _ _ q => nomatch q.2) (fun r ph' q => ?_)
      obtain ⟨rfl, q⟩ := q
      cases q
      refine px_ifne rfl (by decide) rfl (fun hc => ?_) (fun hc => ?_)
      · replace h := (if_neg hc).symm.trans h
        refine px_ld rfl rfl rfl rfl rfl ?_
        refine px_ld rfl rfl rfl rfl rfl ?_
        refine px_ld rfl rfl rfl rfl rfl ?_
        obtain ⟨fs, h0, h⟩ := xs_some h
        have e1 := xo_some h0
        obtain ⟨t5, ph6, h0, h⟩ := xb_some h
        refine px_cV2 rfl rfl e1 rfl rfl rfl rfl rfl rfl rfl (r_M_size h0 :) (fun _ _ q => nomatch q.2) (fun r ph' q => ?_)
        obtain ⟨rfl, q⟩ := q
        cases q
        refine px_ldc2 rfl rfl rfl ?_
        refine px_lrem rfl (by decide) rfl ?_
        refine px_alu rfl rfl rfl ?_
        refine px_alu rfl rfl rfl ?_
        refine px_ifne rfl (by decide) rfl (fun hc => ?_) (fun hc => ?_)
        · replace h := (if_neg (fun q => hc ((lg_cmp_eq _ _).mpr q))).symm.trans h
          refine px_forget (n := 0) (lv' := [_, _, _, _]) rfl ?_
          refine px_forget (n := 1) (lv' := [_, _, _, _]) rfl ?_
          refine px_forget (n := 2) (lv' := [_, _, _, _]) rfl ?_
          exact (r_M_sitesError_62 h :)
        · replace h := (if_pos ((lg_cmp_eq _ _).mp hc)).symm.trans h
          refine px_ld rfl rfl rfl rfl rfl ?_
          refine px_ld rfl rfl rfl rfl rfl ?_
          obtain ⟨fs, h0, h⟩ := xs_some h
          have e1 := xo_some h0
          obtain ⟨t7, ph8, h0, h⟩ := xb_some h
          refine px_cV1 rfl rfl e1 rfl rfl rfl rfl rfl rfl rfl (r_M_symbols h0 :) (fun _ _ q => nomatch q.2) (fun r ph' q => ?_)
          obtain ⟨rfl, q⟩ := q
          cases q
          refine px_ifeq rfl (by decide) rfl (fun hc => ?_) (fun hc => ?_)
          · replace h := (if_pos hc).symm.trans h
            refine px_forget (n := 0) (lv' := [_, _, _, _]) rfl ?_
            refine px_forget (n := 1) (lv' := [_, _, _, _]) rfl ?_
            refine px_forget (n := 2) (lv' := [_, _, _, _]) rfl ?_
            exact (r_M_sitesError_62 h :)
          · replace h := (if_neg hc).symm.trans h
            refine px_ld rfl rfl rfl rfl rfl ?_
            refine px_ld rfl rfl rfl rfl rfl ?_
            refine px_ld rfl rfl rfl rfl rfl ?_
            obtain ⟨fs, h0, h⟩ := xs_some h
            have e1 := xo_some h0
            obtain ⟨t9, ph10, h0, h⟩ := xb_some h
            refine px_cV2 rfl rfl e1 rfl rfl rfl rfl rfl rfl rfl (r_M_linkOf h0 :) (fun _ _ q => nomatch q.2) (fun r ph' q => ?_)
            obtain ⟨rfl, q⟩ := q
            cases q
            refine px_ld rfl rfl rfl rfl rfl ?_
            refine px_ld rfl rfl rfl rfl rfl ?_
            obtain ⟨fs, h0, h⟩ := xs_some h
            have e1 := xo_some h0
            obtain ⟨t11, ph12, h0, h⟩ := xb_some h
            refine px_cV1 rfl rfl e1 rfl rfl rfl rfl rfl rfl rfl (r_M_symbols h0 :) (fun _ _ q => nomatch q.2) (fun r ph' q => ?_)
            obtain ⟨rfl, q⟩ := q
            cases q
            refine px_alu rfl rfl rfl ?_
            refine px_alu rfl rfl rfl ?_
            refine px_ifeq rfl (by decide) rfl (fun hc => ?_) (fun hc => ?_)
            · replace h := (if_pos ((lg_cmp_eq _ _).mp hc)).symm.trans h
              refine px_ic (k := 0) rfl rfl rfl ?_
              refine px_st (lv' := [_, _, _, _]) rfl rfl rfl rfl rfl rfl rfl ?_
              exact (r_M_sitesError_67 @ih _ h :)
            · replace h := (if_neg (fun q => hc ((lg_cmp_eq _ _).mpr q))).symm.trans h
              refine px_forget (n := 0) (lv' := [_, _, _, _]) rfl ?_
              refine px_forget (n := 1) (lv' := [_, _, _, _]) rfl ?_
              refine px_forget (n := 2) (lv' := [_, _, _, _]) rfl ?_
              exact (r_M_sitesError_62 h :)
      · replace h := (if_pos hc).symm.trans h
        refine px_goto rfl (by decide) rfl ?_
        exact (r_M_sitesError_96 @ih h :)
def f_M_sitesError (F : Nat) (a0 : Nat) (a1 : Int32) (ph : px_H) : Option (Int32 × px_H) :=
  f_M_sitesError_2 F F a0 a1 (nI 1) ph
theorem r_M_sitesError {l : Launch} {g : px_G} {d F : Nat} {a0 : Nat} {a1 : Int32} {ph : px_H} {r : Int32} {ph' : px_H} (h : f_M_sitesError F a0 a1 ph = some (r, ph')) : PW l g (d + 6) m_M_sitesError 0 [.ref a0, .int a1, px_u, px_u] [] ph (px_qI r ph') := by
  unfold f_M_sitesError at h
  refine px_ic (k := 1) rfl rfl rfl ?_
  refine px_st (lv' := [_, _, _, _]) rfl rfl rfl rfl rfl rfl rfl ?_
  exact (r_M_sitesError_2 _ h :)
def f_M_isGroup_18 (F : Nat) (s0 : Int32) (ph : px_H) : Option (Int32 × px_H) :=
  xz s0 ph
theorem r_M_isGroup_18 {l : Launch} {g : px_G} {d F : Nat} {s0 : Int32} {ph : px_H} {r : Int32} {ph' : px_H} (h : f_M_isGroup_18 F s0 ph = some (r, ph')) : PW l g (d + 3) m_M_isGroup 18 [px_u, px_u, px_u] [.int s0] ph (px_qI r ph') := by
  unfold f_M_isGroup_18 at h
  obtain ⟨e0, e1, e2⟩ := xz_some h
  subst e1 e2
  exact px_iret rfl (Or.inr ⟨rfl, e0⟩) rfl ⟨rfl, rfl⟩
def f_M_isGroup (F : Nat) (a0 : Nat) (a1 : Int32) (a2 : Int32) (ph : px_H) : Option (Int32 × px_H) :=
  (xo ph 12 a0).bind fun _ =>
  xb (f_M_type F a0 a1 a2 ph) fun t1 ph2 =>
  if t1 = ((17 : Int64)) then
    f_M_isGroup_18 F (nI 1) ph2
  else
    f_M_isGroup_18 F (nI 0) ph2
theorem r_M_isGroup {l : Launch} {g : px_G} {d F : Nat} {a0 : Nat} {a1 : Int32} {a2 : Int32} {ph : px_H} {r : Int32} {ph' : px_H} (h : f_M_isGroup F a0 a1 a2 ph = some (r, ph')) : PW l g (d + 3) m_M_isGroup 0 [.ref a0, .int a1, .int a2] [] ph (px_qI r ph') := by
  unfold f_M_isGroup at h
  refine px_ld rfl rfl rfl rfl rfl ?_
  refine px_ld rfl rfl rfl rfl rfl ?_
  refine px_ld rfl rfl rfl rfl rfl ?_
  obtain ⟨fs, h0, h⟩ := xs_some h
  have e1 := xo_some h0
  obtain ⟨t1, ph2, h0, h⟩ := xb_some h
  refine px_cV2 rfl rfl e1 rfl rfl rfl rfl rfl rfl rfl (r_M_type h0 :) (fun _ _ q => nomatch q.2) (fun r ph' q => ?_)
  obtain ⟨rfl, q⟩ := q
  cases q
  refine px_ldc2 rfl rfl rfl ?_
  refine px_alu rfl rfl rfl ?_
  refine px_ifne rfl rfl rfl (fun hc => ?_) (fun hc => ?_)
  · replace h := (if_neg (fun q => hc ((lg_cmp_eq _ _).mpr q))).symm.trans h
    refine px_ic (k := 0) rfl rfl rfl ?_
    refine px_forget (n := 0) (lv' := [_, _, _]) rfl ?_
    refine px_forget (n := 1) (lv' := [_, _, _]) rfl ?_
    refine px_forget (n := 2) (lv' := [_, _, _]) rfl ?_
    exact (r_M_isGroup_18 h :)
  · replace h := (if_pos ((lg_cmp_eq _ _).mp hc)).symm.trans h
    refine px_ic (k := 1) rfl rfl rfl ?_
    refine px_goto rfl rfl rfl ?_
    refine px_forget (n := 0) (lv' := [_, _, _]) rfl ?_
    refine px_forget (n := 1) (lv' := [_, _, _]) rfl ?_
    refine px_forget (n := 2) (lv' := [_, _, _]) rfl ?_
    exact (r_M_isGroup_18 h :)
def f_M_groupNumber (F : Nat) (a0 : Nat) (a1 : Int32) (a2 : Int32) (a3 : Int32) (ph : px_H) : Option (Int64 × px_H) :=
  (xo ph 12 a0).bind fun _ =>
  xb (f_M_beginning F a0 a1 a2 ph) fun t1 ph2 =>
  (xo ph2 12 a0).bind fun _ =>
  xb (f_M_num F a0 ((a1 + t1.toInt32) + ((nI 4) * a3)) (nI 4) ph2) fun t3 ph4 =>
  some (t3, ph4)
theorem r_M_groupNumber {l : Launch} {g : px_G} {d F : Nat} {a0 : Nat} {a1 : Int32} {a2 : Int32} {a3 : Int32} {ph : px_H} {r : Int64} {ph' : px_H} (h : f_M_groupNumber F a0 a1 a2 a3 ph = some (r, ph')) : PW l g (d + 3) m_M_groupNumber 0 [.ref a0, .int a1, .int a2, .int a3] [] ph (px_qJ r ph') := by
  unfold f_M_groupNumber at h
  refine px_ld rfl rfl rfl rfl rfl ?_
  refine px_ld rfl rfl rfl rfl rfl ?_
  refine px_ld rfl rfl rfl rfl rfl ?_
  refine px_ld rfl rfl rfl rfl rfl ?_
  refine px_ld rfl rfl rfl rfl rfl ?_
  obtain ⟨fs, h0, h⟩ := xs_some h
  have e1 := xo_some h0
  obtain ⟨t1, ph2, h0, h⟩ := xb_some h
  refine px_cV2 rfl rfl e1 rfl rfl rfl rfl rfl rfl rfl (r_M_beginning h0 :) (fun _ _ q => nomatch q.2) (fun r ph' q => ?_)
  obtain ⟨rfl, q⟩ := q
  cases q
  refine px_alu rfl rfl rfl ?_
  refine px_alu rfl rfl rfl ?_
  refine px_ic (k := 4) rfl rfl rfl ?_
  refine px_ld rfl rfl rfl rfl rfl ?_
  refine px_alu rfl rfl rfl ?_
  refine px_alu rfl rfl rfl ?_
  refine px_ic (k := 4) rfl rfl rfl ?_
  obtain ⟨fs, h0, h⟩ := xs_some h
  have e1 := xo_some h0
  obtain ⟨t3, ph4, h0, h⟩ := xb_some h
  refine px_cV2 rfl rfl e1 rfl rfl rfl rfl rfl rfl rfl (r_M_num h0 :) (fun _ _ q => nomatch q.2) (fun r ph' q => ?_)
  obtain ⟨rfl, q⟩ := q
  cases q
  cases h
  exact px_lret rfl rfl rfl ⟨rfl, rfl⟩
def f_M_isGroupRight_193 (F : Nat) (ph : px_H) : Option (Int32 × px_H) :=
  some (nI 1, ph)
theorem r_M_isGroupRight_193 {l : Launch} {g : px_G} {d F : Nat} {ph : px_H} {r : Int32} {ph' : px_H} (h : f_M_isGroupRight_193 F ph = some (r, ph')) : PW l g (d + 6) m_M_isGroupRight 193 [px_u, px_u, px_u, px_u, px_u, px_u, px_u] [] ph (px_qI r ph') := by
  unfold f_M_isGroupRight_193 at h
  refine px_ic (k := 1) rfl rfl rfl ?_
  cases h
  exact px_iret rfl (Or.inr ⟨rfl, Or.inr rfl⟩) rfl ⟨rfl, rfl⟩
def f_M_isGroupRight_176 (F : Nat) (ph : px_H) : Option (Int32 × px_H) :=
  some (nI 0, ph)
theorem r_M_isGroupRight_176 {l : Launch} {g : px_G} {d F : Nat} {ph : px_H} {r : Int32} {ph' : px_H} (h : f_M_isGroupRight_176 F ph = some (r, ph')) : PW l g (d + 6) m_M_isGroupRight 176 [px_u, px_u, px_u, px_u, px_u, px_u, px_u] [] ph (px_qI r ph') := by
  unfold f_M_isGroupRight_176 at h
  refine px_ic (k := 0) rfl rfl rfl ?_
  cases h
  exact px_iret rfl (Or.inr ⟨rfl, Or.inl rfl⟩) rfl ⟨rfl, rfl⟩
def f_M_isGroupRight_119 (F : Nat) : Nat → Nat → Int32 → Int32 → Int32 → px_H → Option (Int32 × px_H)
  | 0, _, _, _, _, _ => none
  | n + 1, a0, a1, a2, a4, ph =>
    (xo ph 12 a0).bind fun _ =>
    xb (f_M_size F a0 a1 a2 ph) fun t1 ph2 =>
    if (t1 / ((4 : Int64))) ≤ a4.toInt64 then
      f_M_isGroupRight_193 F ph2
    else
      (xo ph2 12 a0).bind fun _ =>
      xb (f_M_groupNumber F a0 a1 a2 a4 ph2) fun t3 ph4 =>
      if t3 < (lN 1) then
        f_M_isGroupRight_176 F ph4
      else
        (xo ph4 12 a0).bind fun _ =>
        xb (f_M_sections F a0 a1 ph4) fun t5 ph6 =>
        if t5.toInt64 ≤ t3 then
          f_M_isGroupRight_176 F ph6
        else
          (xgR ph6 12 96 a0).bind fun t7 =>
          (xaI ph6 3 t7 t3.toInt32).bind fun t8 =>
          if t8 = 0 then
            (xgR ph6 12 96 a0).bind fun t9 =>
            (xsI ph6 3 t9 t3.toInt32 ((nI 1) &&& 1)).bind fun ph10 =>
            f_M_isGroupRight_119 F n a0 a1 a2 (a4 + nI 1) ph10
          else
            f_M_isGroupRight_176 F ph6
theorem r_M_isGroupRight_119 {l : Launch} {g : px_G} {d F : Nat} : ∀ (n : Nat) {a0 : Nat} {a1 : Int32} {a2 : Int32} {a4 : Int32} {ph : px_H} {r : Int32} {ph' : px_H}, f_M_isGroupRight_119 F n a0 a1 a2 a4 ph = some (r, ph') → PW l g (d + 6) m_M_isGroupRight 119 [.ref a0, .int a1, .int a2, px_u, .int a4, px_u, px_u] [] ph (px_qI r ph') := by
  intro n
  induction n with
  | zero => intro _ _ _ _ _ _ _ h; cases h
  | succ n ih =>
    intro a0 a1 a2 a4 ph r ph' h
    unfold f_M_isGroupRight_119 at h
    refine px_ld rfl rfl rfl rfl rfl ?_
    refine px_alu rfl rfl rfl ?_
    refine px_ld rfl rfl rfl rfl rfl ?_
    refine px_ld rfl rfl rfl rfl rfl ?_
    refine px_ld rfl rfl rfl rfl rfl ?_
    obtain ⟨fs, h0, h⟩ := xs_some h
    have e1 := xo_some h0
    obtain ⟨t1, ph2, h0, h⟩ := xb_some h
    refine px_cV2 rfl rfl e1 rfl rfl rfl rfl rfl rfl rfl (r_M_size h0 :) (fun _ _ q => nomatch q.2) (fun r ph' q => ?_)
    obtain ⟨rfl, q⟩ := q
    cases q
    refine px_ldc2 rfl rfl rfl ?_
    refine px_ldiv rfl (by decide) rfl ?_
    refine px_alu rfl rfl rfl ?_
    refine px_ifge rfl (by decide) rfl (fun hc => ?_) (fun hc => ?_)
    · replace h := (if_pos ((lg_cmp_ge _ _).mp hc)).symm.trans h
      refine px_forget (n := 0) (lv' := [_, _, _, _, _, _, _]) rfl ?_
      refine px_forget (n := 1) (lv' := [_, _, _, _, _, _, _]) rfl ?_
      refine px_forget (n := 2) (lv' := [_, _, _, _, _, _, _]) rfl ?_
      refine px_forget (n := 4) (lv' := [_, _, _, _, _, _, _]) rfl ?_
      exact (r_M_isGroupRight_193 h :)
    · replace h := (if_neg (fun q => hc ((lg_cmp_ge _ _).mpr q))).symm.trans h
      refine px_ld rfl rfl rfl rfl rfl ?_
      refine px_ld rfl rfl rfl rfl rfl ?_
      refine px_ld rfl rfl rfl rfl rfl ?_
      refine px_ld rfl rfl rfl rfl rfl ?_
      obtain ⟨fs, h0, h⟩ := xs_some h
      have e1 := xo_some h0
      obtain ⟨t3, ph4, h0, h⟩ := xb_some h
      refine px_cV3 rfl rfl e1 rfl rfl rfl rfl rfl rfl rfl (r_M_groupNumber h0 :) (fun _ _ q => nomatch q.2) (fun r ph' q => ?_)
      obtain ⟨rfl, q⟩ := q
      cases q
      refine px_st (lv' := [_, _, _, _, _, _, _]) rfl rfl rfl rfl rfl rfl rfl ?_
      refine px_ld rfl rfl rfl rfl rfl ?_
      refine px_alu rfl rfl rfl ?_
      refine px_alu rfl rfl rfl ?_
      refine px_iflt rfl (by decide) rfl (fun hc => ?_) (fun hc => ?_)
      · replace h := (if_pos ((lg_cmp_lt _ _).mp hc)).symm.trans h
        refine px_forget (n := 0) (lv' := [_, _, _, _, _, _, _]) rfl ?_
        refine px_forget (n := 1) (lv' := [_, _, _, _, _, _, _]) rfl ?_
        refine px_forget (n := 2) (lv' := [_, _, _, _, _, _, _]) rfl ?_
        refine px_forget (n := 4) (lv' := [_, _, _, _, _, _, _]) rfl ?_
        refine px_forget (n := 5) (lv' := [_, _, _, _, _, _, _]) rfl ?_
        exact (r_M_isGroupRight_176 h :)
      · replace h := (if_neg (fun q => hc ((lg_cmp_lt _ _).mpr q))).symm.trans h
        refine px_ld rfl rfl rfl rfl rfl ?_
        refine px_ld rfl rfl rfl rfl rfl ?_
        refine px_ld rfl rfl rfl rfl rfl ?_
        obtain ⟨fs, h0, h⟩ := xs_some h
        have e1 := xo_some h0
        obtain ⟨t5, ph6, h0, h⟩ := xb_some h
        refine px_cV1 rfl rfl e1 rfl rfl rfl rfl rfl rfl rfl (r_M_sections h0 :) (fun _ _ q => nomatch q.2) (fun r ph' q => ?_)
        obtain ⟨rfl, q⟩ := q
        cases q
        refine px_alu rfl rfl rfl ?_
        refine px_alu rfl rfl rfl ?_
        refine px_ifge rfl (by decide) rfl (fun hc => ?_) (fun hc => ?_)
        · replace h := (if_pos ((lg_cmp_ge _ _).mp hc)).symm.trans h
          refine px_forget (n := 0) (lv' := [_, _, _, _, _, _, _]) rfl ?_
          refine px_forget (n := 1) (lv' := [_, _, _, _, _, _, _]) rfl ?_
          refine px_forget (n := 2) (lv' := [_, _, _, _, _, _, _]) rfl ?_
          refine px_forget (n := 4) (lv' := [_, _, _, _, _, _, _]) rfl ?_
          refine px_forget (n := 5) (lv' := [_, _, _, _, _, _, _]) rfl ?_
          exact (r_M_isGroupRight_176 h :)
        · replace h := (if_neg (fun q => hc ((lg_cmp_ge _ _).mpr q))).symm.trans h
          refine px_ld rfl rfl rfl rfl rfl ?_
          obtain ⟨t7, h0, h⟩ := xs_some h
          obtain ⟨fs, e1, e2⟩ := xgR_some h0
          refine px_get rfl e1 e2 rfl ?_
          refine px_ld rfl rfl rfl rfl rfl ?_
          refine px_alu rfl rfl rfl ?_
          obtain ⟨t8, h0, h⟩ := xs_some h
          obtain ⟨N, f, e1, e2, e3⟩ := xaI_some h0
          subst e3
          refine px_zald rfl e1 rfl e2 rfl ?_
          refine px_ifeq rfl (by decide) rfl (fun hc => ?_) (fun hc => ?_)
          · replace h := (if_pos hc).symm.trans h
            refine px_ld rfl rfl rfl rfl rfl ?_
            obtain ⟨t9, h0, h⟩ := xs_some h
            obtain ⟨fs, e1, e2⟩ := xgR_some h0
            refine px_get rfl e1 e2 rfl ?_
            refine px_ld rfl rfl rfl rfl rfl ?_
            refine px_alu rfl rfl rfl ?_
            refine px_ic (k := 1) rfl rfl rfl ?_
            obtain ⟨ph10, h0, h⟩ := xs_some h
            obtain ⟨N, f, e1, e2, e3⟩ := xsI_some h0
            subst e3
            refine px_zast rfl e1 rfl e2 rfl ?_
            refine px_iinc (lv' := [_, _, _, _, _, _, _]) rfl rfl rfl rfl rfl rfl ?_
            refine px_goto rfl (by decide) rfl ?_
            refine px_forget (n := 5) (lv' := [_, _, _, _, _, _, _]) rfl ?_
            exact (ih h :)
          · replace h := (if_neg hc).symm.trans h
            refine px_forget (n := 0) (lv' := [_, _, _, _, _, _, _]) rfl ?_
            refine px_forget (n := 1) (lv' := [_, _, _, _, _, _, _]) rfl ?_
            refine px_forget (n := 2) (lv' := [_, _, _, _, _, _, _]) rfl ?_
            refine px_forget (n := 4) (lv' := [_, _, _, _, _, _, _]) rfl ?_
            refine px_forget (n := 5) (lv' := [_, _, _, _, _, _, _]) rfl ?_
            exact (r_M_isGroupRight_176 h :)
def f_M_isGroupRight_114 (F : Nat) (ph : px_H) : Option (Int32 × px_H) :=
  some (nI 0, ph)
theorem r_M_isGroupRight_114 {l : Launch} {g : px_G} {d F : Nat} {ph : px_H} {r : Int32} {ph' : px_H} (h : f_M_isGroupRight_114 F ph = some (r, ph')) : PW l g (d + 6) m_M_isGroupRight 114 [px_u, px_u, px_u, px_u, px_u, px_u, px_u] [] ph (px_qI r ph') := by
  unfold f_M_isGroupRight_114 at h
  refine px_ic (k := 0) rfl rfl rfl ?_
  cases h
  exact px_iret rfl (Or.inr ⟨rfl, Or.inl rfl⟩) rfl ⟨rfl, rfl⟩
def f_M_isGroupRight_82 (F : Nat) (a0 : Nat) (a1 : Int32) (a2 : Int32) (s0 : Int32) (ph : px_H) : Option (Int32 × px_H) :=
  if s0 = 0 then
    f_M_isGroupRight_114 F ph
  else
    (xo ph 12 a0).bind fun _ =>
    xb (f_M_info F a0 a1 a2 ph) fun t1 ph2 =>
    (xo ph2 12 a0).bind fun _ =>
    xb (f_M_bind F a0 a1 t1.toInt32 ph2) fun t3 ph4 =>
    if t3 = 0 then
      f_M_isGroupRight_114 F ph4
    else
      (xo ph4 12 a0).bind fun _ =>
      xb (f_M_groupNumber F a0 a1 a2 (nI 0) ph4) fun t5 ph6 =>
      if t5 ≤ (lN 1) then
        f_M_isGroupRight_119 F F a0 a1 a2 (nI 1) ph6
      else
        f_M_isGroupRight_114 F ph6
theorem r_M_isGroupRight_82 {l : Launch} {g : px_G} {d F : Nat} {a0 : Nat} {a1 : Int32} {a2 : Int32} {s0 : Int32} {ph : px_H} {r : Int32} {ph' : px_H} (h : f_M_isGroupRight_82 F a0 a1 a2 s0 ph = some (r, ph')) : PW l g (d + 6) m_M_isGroupRight 82 [.ref a0, .int a1, .int a2, px_u, px_u, px_u, px_u] [.int s0] ph (px_qI r ph') := by
  unfold f_M_isGroupRight_82 at h
  refine px_st (lv' := [_, _, _, _, _, _, _]) rfl rfl rfl rfl rfl rfl rfl ?_
  refine px_ld rfl rfl rfl rfl rfl ?_
  refine px_ifeq rfl (by decide) rfl (fun hc => ?_) (fun hc => ?_)
  · replace h := (if_pos hc).symm.trans h
    refine px_forget (n := 0) (lv' := [_, _, _, _, _, _, _]) rfl ?_
    refine px_forget (n := 1) (lv' := [_, _, _, _, _, _, _]) rfl ?_
    refine px_forget (n := 2) (lv' := [_, _, _, _, _, _, _]) rfl ?_
    refine px_forget (n := 3) (lv' := [_, _, _, _, _, _, _]) rfl ?_
    exact (r_M_isGroupRight_114 h :)
  · replace h := (if_neg hc).symm.trans h
    refine px_ld rfl rfl rfl rfl rfl ?_
    refine px_ld rfl rfl rfl rfl rfl ?_
    refine px_ld rfl rfl rfl rfl rfl ?_
    refine px_ld rfl rfl rfl rfl rfl ?_
    refine px_ld rfl rfl rfl rfl rfl ?_
    obtain ⟨fs, h0, h⟩ := xs_some h
    have e1 := xo_some h0
    obtain ⟨t1, ph2, h0, h⟩ := xb_some h
    refine px_cV2 rfl rfl e1 rfl rfl rfl rfl rfl rfl rfl (r_M_info h0 :) (fun _ _ q => nomatch q.2) (fun r ph' q => ?_)
    obtain ⟨rfl, q⟩ := q
    cases q
    refine px_alu rfl rfl rfl ?_
    obtain ⟨fs, h0, h⟩ := xs_some h
    have e1 := xo_some h0
    obtain ⟨t3, ph4, h0, h⟩ := xb_some h
    refine px_cV2 rfl rfl e1 rfl rfl rfl rfl rfl rfl rfl (r_M_bind h0 :) (fun _ _ q => nomatch q.2) (fun r ph' q => ?_)
    obtain ⟨rfl, q⟩ := q
    cases q
    refine px_ifeq rfl (by decide) rfl (fun hc => ?_) (fun hc => ?_)
    · replace h := (if_pos hc).symm.trans h
      refine px_forget (n := 0) (lv' := [_, _, _, _, _, _, _]) rfl ?_
      refine px_forget (n := 1) (lv' := [_, _, _, _, _, _, _]) rfl ?_
      refine px_forget (n := 2) (lv' := [_, _, _, _, _, _, _]) rfl ?_
      refine px_forget (n := 3) (lv' := [_, _, _, _, _, _, _]) rfl ?_
      exact (r_M_isGroupRight_114 h :)
    · replace h := (if_neg hc).symm.trans h
      refine px_ld rfl rfl rfl rfl rfl ?_
      refine px_ld rfl rfl rfl rfl rfl ?_
      refine px_ld rfl rfl rfl rfl rfl ?_
      refine px_ic (k := 0) rfl rfl rfl ?_
      obtain ⟨fs, h0, h⟩ := xs_some h
      have e1 := xo_some h0
      obtain ⟨t5, ph6, h0, h⟩ := xb_some h
      refine px_cV3 rfl rfl e1 rfl rfl rfl rfl rfl rfl rfl (r_M_groupNumber h0 :) (fun _ _ q => nomatch q.2) (fun r ph' q => ?_)
      obtain ⟨rfl, q⟩ := q
      cases q
      refine px_alu rfl rfl rfl ?_
      refine px_alu rfl rfl rfl ?_
      refine px_ifle rfl (by decide) rfl (fun hc => ?_) (fun hc => ?_)
      · replace h := (if_pos ((lg_cmp_le _ _).mp hc)).symm.trans h
        refine px_ic (k := 1) rfl rfl rfl ?_
        refine px_st (lv' := [_, _, _, _, _, _, _]) rfl rfl rfl rfl rfl rfl rfl ?_
        refine px_forget (n := 3) (lv' := [_, _, _, _, _, _, _]) rfl ?_
        exact (r_M_isGroupRight_119 _ h :)
      · replace h := (if_neg (fun q => hc ((lg_cmp_le _ _).mpr q))).symm.trans h
        refine px_forget (n := 0) (lv' := [_, _, _, _, _, _, _]) rfl ?_
        refine px_forget (n := 1) (lv' := [_, _, _, _, _, _, _]) rfl ?_
        refine px_forget (n := 2) (lv' := [_, _, _, _, _, _, _]) rfl ?_
        refine px_forget (n := 3) (lv' := [_, _, _, _, _, _, _]) rfl ?_
        exact (r_M_isGroupRight_114 h :)
def f_M_isGroupRight_81 (F : Nat) (a0 : Nat) (a1 : Int32) (a2 : Int32) (ph : px_H) : Option (Int32 × px_H) :=
  f_M_isGroupRight_82 F a0 a1 a2 (nI 0) ph
theorem r_M_isGroupRight_81 {l : Launch} {g : px_G} {d F : Nat} {a0 : Nat} {a1 : Int32} {a2 : Int32} {ph : px_H} {r : Int32} {ph' : px_H} (h : f_M_isGroupRight_81 F a0 a1 a2 ph = some (r, ph')) : PW l g (d + 6) m_M_isGroupRight 81 [.ref a0, .int a1, .int a2, px_u, px_u, px_u, px_u] [] ph (px_qI r ph') := by
  unfold f_M_isGroupRight_81 at h
  refine px_ic (k := 0) rfl rfl rfl ?_
  exact (r_M_isGroupRight_82 h :)
def f_M_isGroupRight (F : Nat) (a0 : Nat) (a1 : Int32) (a2 : Int32) (ph : px_H) : Option (Int32 × px_H) :=
  (xo ph 12 a0).bind fun _ =>
  xb (f_M_size F a0 a1 a2 ph) fun t1 ph2 =>
  if t1 ≤ (lN 0) then
    f_M_isGroupRight_81 F a0 a1 a2 ph2
  else
    (xo ph2 12 a0).bind fun _ =>
    xb (f_M_size F a0 a1 a2 ph2) fun t3 ph4 =>
    if (t3 - t3 / ((4 : Int64)) * ((4 : Int64))) = (lN 0) then
      (xo ph4 12 a0).bind fun _ =>
      xb (f_M_symbols F a0 a1 ph4) fun t5 ph6 =>
      if t5 ≤ 0 then
        f_M_isGroupRight_81 F a0 a1 a2 ph6
      else
        (xo ph6 12 a0).bind fun _ =>
        xb (f_M_linkOf F a0 a1 a2 ph6) fun t7 ph8 =>
        (xo ph8 12 a0).bind fun _ =>
        xb (f_M_symbols F a0 a1 ph8) fun t9 ph10 =>
        if t7 = t9.toInt64 then
          (xo ph10 12 a0).bind fun _ =>
          xb (f_M_info F a0 a1 a2 ph10) fun t11 ph12 =>
          if t11 ≤ (lN 0) then
            f_M_isGroupRight_81 F a0 a1 a2 ph12
          else
            (xo ph12 12 a0).bind fun _ =>
            xb (f_M_info F a0 a1 a2 ph12) fun t13 ph14 =>
            (xo ph14 12 a0).bind fun _ =>
            xb (f_M_symbolMany F a0 a1 ph14) fun t15 ph16 =>
            if t15.toInt64 ≤ t13 then
              f_M_isGroupRight_81 F a0 a1 a2 ph16
            else
              f_M_isGroupRight_82 F a0 a1 a2 (nI 1) ph16
        else
          f_M_isGroupRight_81 F a0 a1 a2 ph10
    else
      f_M_isGroupRight_81 F a0 a1 a2 ph4
theorem r_M_isGroupRight {l : Launch} {g : px_G} {d F : Nat} {a0 : Nat} {a1 : Int32} {a2 : Int32} {ph : px_H} {r : Int32} {ph' : px_H} (h : f_M_isGroupRight F a0 a1 a2 ph = some (r, ph')) : PW l g (d + 6) m_M_isGroupRight 0 [.ref a0, .int a1, .int a2, px_u, px_u, px_u, px_u] [] ph (px_qI r ph') := by
  unfold f_M_isGroupRight at h
  refine px_ld rfl rfl rfl rfl rfl ?_
  refine px_ld rfl rfl rfl rfl rfl ?_
  refine px_ld rfl rfl rfl rfl rfl ?_
  obtain ⟨fs, h0, h⟩ := xs_some h
  have e1 := xo_some h0
  obtain ⟨t1, ph2, h0, h⟩ := xb_some h
  refine px_cV2 rfl rfl e1 rfl rfl rfl rfl rfl rfl rfl (r_M_size h0 :) (fun _ _ q => nomatch q.2) (fun r ph' q => ?_)
  obtain ⟨rfl, q⟩ := q
  cases q
  refine px_alu rfl rfl rfl ?_
  refine px_alu rfl rfl rfl ?_
  refine px_ifle rfl (by decide) rfl (fun hc => ?_) (fun hc => ?_)
  · replace h := (if_pos ((lg_cmp_le _ _).mp hc)).symm.trans h
    exact (r_M_isGroupRight_81 h :)
  · replace h := (if_neg (fun q => hc ((lg_cmp_le _ _).mpr q))).symm.trans h
    refine px_ld rfl rfl rfl rfl rfl ?_
    refine px_ld rfl rfl rfl rfl rfl ?_
    refine px_ld rfl rfl rfl rfl rfl ?_
    obtain ⟨fs, h0, h⟩ := xs_some h
    have e1 := xo_some h0
    obtain ⟨t3, ph4, h0, h⟩ := xb_some h
    refine px_cV2 rfl rfl e1 rfl rfl rfl rfl rfl rfl rfl (r_M_size h0 :) (fun _ _ q => nomatch q.2) (fun r ph' q => ?_)
    obtain ⟨rfl, q⟩ := q
    cases q
    refine px_ldc2 rfl rfl rfl ?_
    refine px_lrem rfl (by decide) rfl ?_
    refine px_alu rfl rfl rfl ?_
    refine px_alu rfl rfl rfl ?_
    refine px_ifne rfl (by decide) rfl (fun hc => ?_) (fun hc => ?_)
    · replace h := (if_neg (fun q => hc ((lg_cmp_eq _ _).mpr q))).symm.trans h
      exact (r_M_isGroupRight_81 h :)
    · replace h := (if_pos ((lg_cmp_eq _ _).mp hc)).symm.trans h
      refine px_ld rfl rfl rfl rfl rfl ?_
      refine px_ld rfl rfl rfl rfl rfl ?_
      obtain ⟨fs, h0, h⟩ := xs_some h
      have e1 := xo_some h0
      obtain ⟨t5, ph6, h0, h⟩ := xb_some h
      refine px_cV1 rfl rfl e1 rfl rfl rfl rfl rfl rfl rfl (r_M_symbols h0 :) (fun _ _ q => nomatch q.2) (fun r ph' q => ?_)
      obtain ⟨rfl, q⟩ := q
      cases q
      refine px_ifle rfl (by decide) rfl (fun hc => ?_) (fun hc => ?_)
      · replace h := (if_pos hc).symm.trans h
        exact (r_M_isGroupRight_81 h :)
      · replace h := (if_neg hc).symm.trans h
        refine px_ld rfl rfl rfl rfl rfl ?_
        refine px_ld rfl rfl rfl rfl rfl ?_
        refine px_ld rfl rfl rfl rfl rfl ?_
        obtain ⟨fs, h0, h⟩ := xs_some h
        have e1 := xo_some h0
        obtain ⟨t7, ph8, h0, h⟩ := xb_some h
        refine px_cV2 rfl rfl e1 rfl rfl rfl rfl rfl rfl rfl (r_M_linkOf h0 :) (fun _ _ q => nomatch q.2) (fun r ph' q => ?_)
        obtain ⟨rfl, q⟩ := q
        cases q
        refine px_ld rfl rfl rfl rfl rfl ?_
        refine px_ld rfl rfl rfl rfl rfl ?_
        obtain ⟨fs, h0, h⟩ := xs_some h
        have e1 := xo_some h0
        obtain ⟨t9, ph10, h0, h⟩ := xb_some h
        refine px_cV1 rfl rfl e1 rfl rfl rfl rfl rfl rfl rfl (r_M_symbols h0 :) (fun _ _ q => nomatch q.2) (fun r ph' q => ?_)
        obtain ⟨rfl, q⟩ := q
        cases q
        refine px_alu rfl rfl rfl ?_
        refine px_alu rfl rfl rfl ?_
        refine px_ifne rfl (by decide) rfl (fun hc => ?_) (fun hc => ?_)
        · replace h := (if_neg (fun q => hc ((lg_cmp_eq _ _).mpr q))).symm.trans h
          exact (r_M_isGroupRight_81 h :)
        · replace h := (if_pos ((lg_cmp_eq _ _).mp hc)).symm.trans h
          refine px_ld rfl rfl rfl rfl rfl ?_
          refine px_ld rfl rfl rfl rfl rfl ?_
          refine px_ld rfl rfl rfl rfl rfl ?_
          obtain ⟨fs, h0, h⟩ := xs_some h
          have e1 := xo_some h0
          obtain ⟨t11, ph12, h0, h⟩ := xb_some h
          refine px_cV2 rfl rfl e1 rfl rfl rfl rfl rfl rfl rfl (r_M_info h0 :) (fun _ _ q => nomatch q.2) (fun r ph' q => ?_)
          obtain ⟨rfl, q⟩ := q
          cases q
          refine px_alu rfl rfl rfl ?_
          refine px_alu rfl rfl rfl ?_
          refine px_ifle rfl (by decide) rfl (fun hc => ?_) (fun hc => ?_)
          · replace h := (if_pos ((lg_cmp_le _ _).mp hc)).symm.trans h
            exact (r_M_isGroupRight_81 h :)
          · replace h := (if_neg (fun q => hc ((lg_cmp_le _ _).mpr q))).symm.trans h
            refine px_ld rfl rfl rfl rfl rfl ?_
            refine px_ld rfl rfl rfl rfl rfl ?_
            refine px_ld rfl rfl rfl rfl rfl ?_
            obtain ⟨fs, h0, h⟩ := xs_some h
            have e1 := xo_some h0
            obtain ⟨t13, ph14, h0, h⟩ := xb_some h
            refine px_cV2 rfl rfl e1 rfl rfl rfl rfl rfl rfl rfl (r_M_info h0 :) (fun _ _ q => nomatch q.2) (fun r ph' q => ?_)
            obtain ⟨rfl, q⟩ := q
            cases q
            refine px_ld rfl rfl rfl rfl rfl ?_
            refine px_ld rfl rfl rfl rfl rfl ?_
            obtain ⟨fs, h0, h⟩ := xs_some h
            have e1 := xo_some h0
            obtain ⟨t15, ph16, h0, h⟩ := xb_some h
            refine px_cV1 rfl rfl e1 rfl rfl rfl rfl rfl rfl rfl (r_M_symbolMany h0 :) (fun _ _ q => nomatch q.2) (fun r ph' q => ?_)
            obtain ⟨rfl, q⟩ := q
            cases q
            refine px_alu rfl rfl rfl ?_
            refine px_alu rfl rfl rfl ?_
            refine px_ifge rfl (by decide) rfl (fun hc => ?_) (fun hc => ?_)
            · replace h := (if_pos ((lg_cmp_ge _ _).mp hc)).symm.trans h
              exact (r_M_isGroupRight_81 h :)
            · replace h := (if_neg (fun q => hc ((lg_cmp_ge _ _).mpr q))).symm.trans h
              refine px_ic (k := 1) rfl rfl rfl ?_
              refine px_goto rfl (by decide) rfl ?_
              exact (r_M_isGroupRight_82 h :)
def f_M_groupsError_59 (F : Nat) (ph : px_H) : Option (Int32 × px_H) :=
  some (nI 0, ph)
theorem r_M_groupsError_59 {l : Launch} {g : px_G} {d F : Nat} {ph : px_H} {r : Int32} {ph' : px_H} (h : f_M_groupsError_59 F ph = some (r, ph')) : PW l g (d + 7) m_M_groupsError 59 [px_u, px_u, px_u] [] ph (px_qI r ph') := by
  unfold f_M_groupsError_59 at h
  refine px_ic (k := 0) rfl rfl rfl ?_
  cases h
  exact px_iret rfl (Or.inl rfl) rfl ⟨rfl, rfl⟩
def f_M_groupsError_53 (F : Nat) (k23 : Nat → Int32 → Int32 → px_H → Option (Int32 × px_H)) (a0 : Nat) (a1 : Int32) (a2 : Int32) (ph : px_H) : Option (Int32 × px_H) :=
  k23 a0 a1 (a2 + nI 1) ph
theorem r_M_groupsError_53 {l : Launch} {g : px_G} {d F : Nat} {k23 : Nat → Int32 → Int32 → px_H → Option (Int32 × px_H)} (hk23 : ∀ {a0 : Nat} {a1 : Int32} {a2 : Int32} {ph : px_H} {r : Int32} {ph' : px_H}, k23 a0 a1 a2 ph = some (r, ph') → PW l g (d + 7) m_M_groupsError 23 [.ref a0, .int a1, .int a2] [] ph (px_qI r ph')) {a0 : Nat} {a1 : Int32} {a2 : Int32} {ph : px_H} {r : Int32} {ph' : px_H} (h : f_M_groupsError_53 F k23 a0 a1 a2 ph = some (r, ph')) : PW l g (d + 7) m_M_groupsError 53 [.ref a0, .int a1, .int a2] [] ph (px_qI r ph') := by
  unfold f_M_groupsError_53 at h
  refine px_iinc (lv' := [_, _, _]) rfl rfl rfl rfl rfl rfl ?_
  refine px_goto rfl rfl rfl ?_
  exact (hk23 h :)
def f_M_groupsError_50 (F : Nat) (ph : px_H) : Option (Int32 × px_H) :=
  some (nI 9, ph)
theorem r_M_groupsError_50 {l : Launch} {g : px_G} {d F : Nat} {ph : px_H} {r : Int32} {ph' : px_H} (h : f_M_groupsError_50 F ph = some (r, ph')) : PW l g (d + 7) m_M_groupsError 50 [px_u, px_u, px_u] [] ph (px_qI r ph') := by
  unfold f_M_groupsError_50 at h
  refine px_ic (k := 9) rfl rfl rfl ?_
  cases h
  exact px_iret rfl (Or.inl rfl) rfl ⟨rfl, rfl⟩
def f_M_groupsError_23 (F : Nat) : Nat → Nat → Int32 → Int32 → px_H → Option (Int32 × px_H)
  | 0, _, _, _, _ => none
  | n + 1, a0, a1, a2, ph =>
    (xo ph 12 a0).bind fun _ =>
    xb (f_M_sections F a0 a1 ph) fun t1 ph2 =>
    if t1 ≤ a2 then
      f_M_groupsError_59 F ph2
    else
      (xo ph2 12 a0).bind fun _ =>
      xb (f_M_isGroup F a0 a1 a2 ph2) fun t3 ph4 =>
      if t3 = 0 then
        f_M_groupsError_53 F (f_M_groupsError_23 F n) a0 a1 a2 ph4
      else
        (xo ph4 12 a0).bind fun _ =>
        xb (f_M_isGroupRight F a0 a1 a2 ph4) fun t5 ph6 =>
        if t5 = 0 then
          f_M_groupsError_50 F ph6
        else
          f_M_groupsError_53 F (f_M_groupsError_23 F n) a0 a1 a2 ph6
theorem r_M_groupsError_23 {l : Launch} {g : px_G} {d F : Nat} : ∀ (n : Nat) {a0 : Nat} {a1 : Int32} {a2 : Int32} {ph : px_H} {r : Int32} {ph' : px_H}, f_M_groupsError_23 F n a0 a1 a2 ph = some (r, ph') → PW l g (d + 7) m_M_groupsError 23 [.ref a0, .int a1, .int a2] [] ph (px_qI r ph') := by
  intro n
  induction n with
  | zero => intro _ _ _ _ _ _ h; cases h
  | succ n ih =>
    intro a0 a1 a2 ph r ph' h
    unfold f_M_groupsError_23 at h
    refine px_ld rfl rfl rfl rfl rfl ?_
    refine px_ld rfl rfl rfl rfl rfl ?_
    refine px_ld rfl rfl rfl rfl rfl ?_
    obtain ⟨fs, h0, h⟩ := xs_some h
    have e1 := xo_some h0
    obtain ⟨t1, ph2, h0, h⟩ := xb_some h
    refine px_cV1 rfl rfl e1 rfl rfl rfl rfl rfl rfl rfl (r_M_sections h0 :) (fun _ _ q => nomatch q.2) (fun r ph' q => ?_)
    obtain ⟨rfl, q⟩ := q
    cases q
    refine px_icge rfl rfl rfl (fun hc => ?_) (fun hc => ?_)
    · replace h := (if_pos hc).symm.trans h
      refine px_forget (n := 0) (lv' := [_, _, _]) rfl ?_
      refine px_forget (n := 1) (lv' := [_, _, _]) rfl ?_
      refine px_forget (n := 2) (lv' := [_, _, _]) rfl ?_
      exact (r_M_groupsError_59 h :)
    · replace h := (if_neg hc).symm.trans h
      refine px_ld rfl rfl rfl rfl rfl ?_
      refine px_ld rfl rfl rfl rfl rfl ?_
      refine px_ld rfl rfl rfl rfl rfl ?_
      obtain ⟨fs, h0, h⟩ := xs_some h
      have e1 := xo_some h0
      obtain ⟨t3, ph4, h0, h⟩ := xb_some h
      refine px_cV2 rfl rfl e1 rfl rfl rfl rfl rfl rfl rfl (r_M_isGroup h0 :) (fun _ _ q => nomatch q.2) (fun r ph' q => ?_)
      obtain ⟨rfl, q⟩ := q
      cases q
      refine px_ifeq rfl rfl rfl (fun hc => ?_) (fun hc => ?_)
      · replace h := (if_pos hc).symm.trans h
        exact (r_M_groupsError_53 @ih h :)
      · replace h := (if_neg hc).symm.trans h
        refine px_ld rfl rfl rfl rfl rfl ?_
        refine px_ld rfl rfl rfl rfl rfl ?_
        refine px_ld rfl rfl rfl rfl rfl ?_
        obtain ⟨fs, h0, h⟩ := xs_some h
        have e1 := xo_some h0
        obtain ⟨t5, ph6, h0, h⟩ := xb_some h
        refine px_cV2 rfl rfl e1 rfl rfl rfl rfl rfl rfl rfl (r_M_isGroupRight h0 :) (fun _ _ q => nomatch q.2) (fun r ph' q => ?_)
        obtain ⟨rfl, q⟩ := q
        cases q
        refine px_ifne rfl rfl rfl (fun hc => ?_) (fun hc => ?_)
        · replace h := (if_neg hc).symm.trans h
          exact (r_M_groupsError_53 @ih h :)
        · replace h := (if_pos hc).symm.trans h
          refine px_forget (n := 0) (lv' := [_, _, _]) rfl ?_
          refine px_forget (n := 1) (lv' := [_, _, _]) rfl ?_
          refine px_forget (n := 2) (lv' := [_, _, _]) rfl ?_
          exact (r_M_groupsError_50 h :)
def f_M_groupsError_21 (F : Nat) (a0 : Nat) (a1 : Int32) (ph : px_H) : Option (Int32 × px_H) :=
  f_M_groupsError_23 F F a0 a1 (nI 1) ph
theorem r_M_groupsError_21 {l : Launch} {g : px_G} {d F : Nat} {a0 : Nat} {a1 : Int32} {ph : px_H} {r : Int32} {ph' : px_H} (h : f_M_groupsError_21 F a0 a1 ph = some (r, ph')) : PW l g (d + 7) m_M_groupsError 21 [.ref a0, .int a1, px_u] [] ph (px_qI r ph') := by
  unfold f_M_groupsError_21 at h
  refine px_ic (k := 1) rfl rfl rfl ?_
  refine px_st (lv' := [_, _, _]) rfl rfl rfl rfl rfl rfl rfl ?_
  exact (r_M_groupsError_23 _ h :)
def f_M_groupsError_2 (F : Nat) : Nat → Nat → Int32 → Int32 → px_H → Option (Int32 × px_H)
  | 0, _, _, _, _ => none
  | n + 1, a0, a1, a2, ph =>
    if (nI 24) ≤ a2 then
      f_M_groupsError_21 F a0 a1 ph
    else
      (xgR ph 12 96 a0).bind fun t1 =>
      (xsI ph 3 t1 a2 ((nI 0) &&& 1)).bind fun ph2 =>
      f_M_groupsError_2 F n a0 a1 (a2 + nI 1) ph2
theorem r_M_groupsError_2 {l : Launch} {g : px_G} {d F : Nat} : ∀ (n : Nat) {a0 : Nat} {a1 : Int32} {a2 : Int32} {ph : px_H} {r : Int32} {ph' : px_H}, f_M_groupsError_2 F n a0 a1 a2 ph = some (r, ph') → PW l g (d + 7) m_M_groupsError 2 [.ref a0, .int a1, .int a2] [] ph (px_qI r ph') := by
  intro n
  induction n with
  | zero => intro _ _ _ _ _ _ h; cases h
  | succ n ih =>
    intro a0 a1 a2 ph r ph' h
    unfold f_M_groupsError_2 at h
    refine px_ld rfl rfl rfl rfl rfl ?_
    refine px_ic (k := 24) rfl rfl rfl ?_
    refine px_icge rfl rfl rfl (fun hc => ?_) (fun hc => ?_)
    · replace h := (if_pos hc).symm.trans h
      refine px_forget (n := 2) (lv' := [_, _, _]) rfl ?_
      exact (r_M_groupsError_21 h :)
    · replace h := (if_neg hc).symm.trans h
      refine px_ld rfl rfl rfl rfl rfl ?_
      obtain ⟨t1, h0, h⟩ := xs_some h
      obtain ⟨fs, e1, e2⟩ := xgR_some h0
      refine px_get rfl e1 e2 rfl ?_
      refine px_ld rfl rfl rfl rfl rfl ?_
      refine px_ic (k := 0) rfl rfl rfl ?_
      obtain ⟨ph2, h0, h⟩ := xs_some h
      obtain ⟨N, f, e1, e2, e3⟩ := xsI_some h0
      subst e3
      refine px_zast rfl e1 rfl e2 rfl ?_
      refine px_iinc (lv' := [_, _, _]) rfl rfl rfl rfl rfl rfl ?_
      refine px_goto rfl rfl rfl ?_
      exact (ih h :)
def f_M_groupsError (F : Nat) (a0 : Nat) (a1 : Int32) (ph : px_H) : Option (Int32 × px_H) :=
  f_M_groupsError_2 F F a0 a1 (nI 0) ph
theorem r_M_groupsError {l : Launch} {g : px_G} {d F : Nat} {a0 : Nat} {a1 : Int32} {ph : px_H} {r : Int32} {ph' : px_H} (h : f_M_groupsError F a0 a1 ph = some (r, ph')) : PW l g (d + 7) m_M_groupsError 0 [.ref a0, .int a1, px_u] [] ph (px_qI r ph') := by
  unfold f_M_groupsError at h
  refine px_ic (k := 0) rfl rfl rfl ?_
  refine px_st (lv' := [_, _, _]) rfl rfl rfl rfl rfl rfl rfl ?_
  exact (r_M_groupsError_2 _ h :)
def f_M_objectError_142 (F : Nat) (s0 : Int32) (ph : px_H) : Option (Int32 × px_H) :=
  some (s0, ph)
theorem r_M_objectError_142 {l : Launch} {g : px_G} {d F : Nat} {s0 : Int32} {ph : px_H} {r : Int32} {ph' : px_H} (h : f_M_objectError_142 F s0 ph = some (r, ph')) : PW l g (d + 8) m_M_objectError 142 [px_u, px_u, px_u, px_u, px_u, px_u] [.int s0] ph (px_qI r ph') := by
  unfold f_M_objectError_142 at h
  cases h
  exact px_iret rfl (Or.inl rfl) rfl ⟨rfl, rfl⟩
def f_M_objectError_125 (F : Nat) (a0 : Nat) (a1 : Int32) (s0 : Int32) (ph : px_H) : Option (Int32 × px_H) :=
  if s0 ≤ 0 then
    (xo ph 12 a0).bind fun _ =>
    xb (f_M_groupsError F a0 a1 ph) fun t1 ph2 =>
    f_M_objectError_142 F t1 ph2
  else
    f_M_objectError_142 F s0 ph
theorem r_M_objectError_125 {l : Launch} {g : px_G} {d F : Nat} {a0 : Nat} {a1 : Int32} {s0 : Int32} {ph : px_H} {r : Int32} {ph' : px_H} (h : f_M_objectError_125 F a0 a1 s0 ph = some (r, ph')) : PW l g (d + 8) m_M_objectError 125 [.ref a0, .int a1, px_u, px_u, px_u, px_u] [.int s0] ph (px_qI r ph') := by
  unfold f_M_objectError_125 at h
  refine px_st (lv' := [_, _, _, _, _, _]) rfl rfl rfl rfl rfl rfl rfl ?_
  refine px_ld rfl rfl rfl rfl rfl ?_
  refine px_ifle rfl (by decide) rfl (fun hc => ?_) (fun hc => ?_)
  · replace h := (if_pos hc).symm.trans h
    refine px_ld rfl rfl rfl rfl rfl ?_
    refine px_ld rfl rfl rfl rfl rfl ?_
    obtain ⟨fs, h0, h⟩ := xs_some h
    have e1 := xo_some h0
    obtain ⟨t1, ph2, h0, h⟩ := xb_some h
    refine px_cV1 rfl rfl e1 rfl rfl rfl rfl rfl rfl rfl (r_M_groupsError h0 :) (fun _ _ q => nomatch q.2) (fun r ph' q => ?_)
    obtain ⟨rfl, q⟩ := q
    cases q
    refine px_forget (n := 0) (lv' := [_, _, _, _, _, _]) rfl ?_
    refine px_forget (n := 1) (lv' := [_, _, _, _, _, _]) rfl ?_
    refine px_forget (n := 4) (lv' := [_, _, _, _, _, _]) rfl ?_
    exact (r_M_objectError_142 h :)
  · replace h := (if_neg hc).symm.trans h
    refine px_ld rfl rfl rfl rfl rfl ?_
    refine px_goto rfl (by decide) rfl ?_
    refine px_forget (n := 0) (lv' := [_, _, _, _, _, _]) rfl ?_
    refine px_forget (n := 1) (lv' := [_, _, _, _, _, _]) rfl ?_
    refine px_forget (n := 4) (lv' := [_, _, _, _, _, _]) rfl ?_
    exact (r_M_objectError_142 h :)
def f_M_objectError_103 (F : Nat) (a0 : Nat) (a1 : Int32) (ph : px_H) : Option (Int32 × px_H) :=
  (xo ph 12 a0).bind fun _ =>
  xb (f_M_symbolsError F a0 a1 ph) fun t1 ph2 =>
  if t1 ≤ 0 then
    (xo ph2 12 a0).bind fun _ =>
    xb (f_M_sitesError F a0 a1 ph2) fun t3 ph4 =>
    f_M_objectError_125 F a0 a1 t3 ph4
  else
    f_M_objectError_125 F a0 a1 t1 ph2
theorem r_M_objectError_103 {l : Launch} {g : px_G} {d F : Nat} {a0 : Nat} {a1 : Int32} {ph : px_H} {r : Int32} {ph' : px_H} (h : f_M_objectError_103 F a0 a1 ph = some (r, ph')) : PW l g (d + 8) m_M_objectError 103 [.ref a0, .int a1, px_u, px_u, px_u, px_u] [] ph (px_qI r ph') := by
  unfold f_M_objectError_103 at h
  refine px_ld rfl rfl rfl rfl rfl ?_
  refine px_ld rfl rfl rfl rfl rfl ?_
  obtain ⟨fs, h0, h⟩ := xs_some h
  have e1 := xo_some h0
  obtain ⟨t1, ph2, h0, h⟩ := xb_some h
  refine px_cV1 rfl rfl e1 rfl rfl rfl rfl rfl rfl rfl (r_M_symbolsError h0 :) (fun _ _ q => nomatch q.2) (fun r ph' q => ?_)
  obtain ⟨rfl, q⟩ := q
  cases q
  refine px_st (lv' := [_, _, _, _, _, _]) rfl rfl rfl rfl rfl rfl rfl ?_
  refine px_ld rfl rfl rfl rfl rfl ?_
  refine px_ifle rfl (by decide) rfl (fun hc => ?_) (fun hc => ?_)
  · replace h := (if_pos hc).symm.trans h
    refine px_ld rfl rfl rfl rfl rfl ?_
    refine px_ld rfl rfl rfl rfl rfl ?_
    obtain ⟨fs, h0, h⟩ := xs_some h
    have e1 := xo_some h0
    obtain ⟨t3, ph4, h0, h⟩ := xb_some h
    refine px_cV1 rfl rfl e1 rfl rfl rfl rfl rfl rfl rfl (r_M_sitesError h0 :) (fun _ _ q => nomatch q.2) (fun r ph' q => ?_)
    obtain ⟨rfl, q⟩ := q
    cases q
    refine px_forget (n := 4) (lv' := [_, _, _, _, _, _]) rfl ?_
    exact (r_M_objectError_125 h :)
  · replace h := (if_neg hc).symm.trans h
    refine px_ld rfl rfl rfl rfl rfl ?_
    refine px_goto rfl (by decide) rfl ?_
    refine px_forget (n := 4) (lv' := [_, _, _, _, _, _]) rfl ?_
    exact (r_M_objectError_125 h :)
def f_M_objectError_94 (F : Nat) (a5 : Int32) (ph : px_H) : Option (Int32 × px_H) :=
  some (a5, ph)
theorem r_M_objectError_94 {l : Launch} {g : px_G} {d F : Nat} {a5 : Int32} {ph : px_H} {r : Int32} {ph' : px_H} (h : f_M_objectError_94 F a5 ph = some (r, ph')) : PW l g (d + 8) m_M_objectError 94 [px_u, px_u, px_u, px_u, px_u, .int a5] [] ph (px_qI r ph') := by
  unfold f_M_objectError_94 at h
  refine px_ld rfl rfl rfl rfl rfl ?_
  cases h
  exact px_iret rfl (Or.inl rfl) rfl ⟨rfl, rfl⟩
def f_M_objectError_73 (F : Nat) : Nat → Nat → Int32 → Int32 → Int32 → Int32 → px_H → Option (Int32 × px_H)
  | 0, _, _, _, _, _, _ => none
  | n + 1, a0, a1, a2, a3, a4, ph =>
    if a3 ≤ a4 then
      f_M_objectError_103 F a0 a1 ph
    else
      (xo ph 12 a0).bind fun _ =>
      xb (f_M_sectionError F a0 a1 a2 a4 ph) fun t1 ph2 =>
      if t1 ≤ 0 then
        f_M_objectError_73 F n a0 a1 a2 a3 (a4 + nI 1) ph2
      else
        f_M_objectError_94 F t1 ph2
theorem r_M_objectError_73 {l : Launch} {g : px_G} {d F : Nat} : ∀ (n : Nat) {a0 : Nat} {a1 : Int32} {a2 : Int32} {a3 : Int32} {a4 : Int32} {ph : px_H} {r : Int32} {ph' : px_H}, f_M_objectError_73 F n a0 a1 a2 a3 a4 ph = some (r, ph') → PW l g (d + 8) m_M_objectError 73 [.ref a0, .int a1, .int a2, .int a3, .int a4, px_u] [] ph (px_qI r ph') := by
  intro n
  induction n with
  | zero => intro _ _ _ _ _ _ _ _ h; cases h
  | succ n ih =>
    intro a0 a1 a2 a3 a4 ph r ph' h
    unfold f_M_objectError_73 at h
    refine px_ld rfl rfl rfl rfl rfl ?_
    refine px_ld rfl rfl rfl rfl rfl ?_
    refine px_icge rfl (by decide) rfl (fun hc => ?_) (fun hc => ?_)
    · replace h := (if_pos hc).symm.trans h
      refine px_forget (n := 2) (lv' := [_, _, _, _, _, _]) rfl ?_
      refine px_forget (n := 3) (lv' := [_, _, _, _, _, _]) rfl ?_
      refine px_forget (n := 4) (lv' := [_, _, _, _, _, _]) rfl ?_
      exact (r_M_objectError_103 h :)
    · replace h := (if_neg hc).symm.trans h
      refine px_ld rfl rfl rfl rfl rfl ?_
      refine px_ld rfl rfl rfl rfl rfl ?_
      refine px_ld rfl rfl rfl rfl rfl ?_
      refine px_ld rfl rfl rfl rfl rfl ?_
      obtain ⟨fs, h0, h⟩ := xs_some h
      have e1 := xo_some h0
      obtain ⟨t1, ph2, h0, h⟩ := xb_some h
      refine px_cV3 rfl rfl e1 rfl rfl rfl rfl rfl rfl rfl (r_M_sectionError h0 :) (fun _ _ q => nomatch q.2) (fun r ph' q => ?_)
      obtain ⟨rfl, q⟩ := q
      cases q
      refine px_st (lv' := [_, _, _, _, _, _]) rfl rfl rfl rfl rfl rfl rfl ?_
      refine px_ld rfl rfl rfl rfl rfl ?_
      refine px_ifle rfl (by decide) rfl (fun hc => ?_) (fun hc => ?_)
      · replace h := (if_pos hc).symm.trans h
        refine px_iinc (lv' := [_, _, _, _, _, _]) rfl rfl rfl rfl rfl rfl ?_
        refine px_goto rfl (by decide) rfl ?_
        refine px_forget (n := 5) (lv' := [_, _, _, _, _, _]) rfl ?_
        exact (ih h :)
      · replace h := (if_neg hc).symm.trans h
        refine px_forget (n := 0) (lv' := [_, _, _, _, _, _]) rfl ?_
        refine px_forget (n := 1) (lv' := [_, _, _, _, _, _]) rfl ?_
        refine px_forget (n := 2) (lv' := [_, _, _, _, _, _]) rfl ?_
        refine px_forget (n := 3) (lv' := [_, _, _, _, _, _]) rfl ?_
        refine px_forget (n := 4) (lv' := [_, _, _, _, _, _]) rfl ?_
        exact (r_M_objectError_94 h :)
def f_M_objectError_68 (F : Nat) (ph : px_H) : Option (Int32 × px_H) :=
  some (nI 2, ph)
theorem r_M_objectError_68 {l : Launch} {g : px_G} {d F : Nat} {ph : px_H} {r : Int32} {ph' : px_H} (h : f_M_objectError_68 F ph = some (r, ph')) : PW l g (d + 8) m_M_objectError 68 [px_u, px_u, px_u, px_u, px_u, px_u] [] ph (px_qI r ph') := by
  unfold f_M_objectError_68 at h
  refine px_ic (k := 2) rfl rfl rfl ?_
  cases h
  exact px_iret rfl (Or.inl rfl) rfl ⟨rfl, rfl⟩
def f_M_objectError_14 (F : Nat) (ph : px_H) : Option (Int32 × px_H) :=
  some (nI 1, ph)
theorem r_M_objectError_14 {l : Launch} {g : px_G} {d F : Nat} {ph : px_H} {r : Int32} {ph' : px_H} (h : f_M_objectError_14 F ph = some (r, ph')) : PW l g (d + 8) m_M_objectError 14 [px_u, px_u, px_u, px_u, px_u, px_u] [] ph (px_qI r ph') := by
  unfold f_M_objectError_14 at h
  refine px_ic (k := 1) rfl rfl rfl ?_
  cases h
  exact px_iret rfl (Or.inl rfl) rfl ⟨rfl, rfl⟩
def f_M_objectError (F : Nat) (a0 : Nat) (a1 : Int32) (a2 : Int32) (ph : px_H) : Option (Int32 × px_H) :=
  if a2 < (nI 64) then
    f_M_objectError_14 F ph
  else
    (xo ph 12 a0).bind fun _ =>
    xb (f_M_isHeader F a0 a1 ph) fun t1 ph2 =>
    if t1 = 0 then
      f_M_objectError_14 F ph2
    else
      (xo ph2 12 a0).bind fun _ =>
      xb (f_M_sections F a0 a1 ph2) fun t3 ph4 =>
      if t3 < (nI 1) then
        f_M_objectError_68 F ph4
      else
        if (nI 24) < t3 then
          f_M_objectError_68 F ph4
        else
          (xo ph4 12 a0).bind fun _ =>
          xb (f_M_num F a0 (a1 + (nI 40)) (nI 8) ph4) fun t5 ph6 =>
          xb (f_M_lies F t5 (((64 : Int64)) * t3.toInt64) a2.toInt64 ph6) fun t7 ph8 =>
          if t7 = 0 then
            f_M_objectError_68 F ph8
          else
            (xo ph8 12 a0).bind fun _ =>
            xb (f_M_type F a0 a1 (nI 0) ph8) fun t9 ph10 =>
            if t9 = (lN 0) then
              f_M_objectError_73 F F a0 a1 a2 t3 (nI 0) ph10
            else
              f_M_objectError_68 F ph10
theorem r_M_objectError {l : Launch} {g : px_G} {d F : Nat} {a0 : Nat} {a1 : Int32} {a2 : Int32} {ph : px_H} {r : Int32} {ph' : px_H} (h : f_M_objectError F a0 a1 a2 ph = some (r, ph')) : PW l g (d + 8) m_M_objectError 0 [.ref a0, .int a1, .int a2, px_u, px_u, px_u] [] ph (px_qI r ph') := by
  unfold f_M_objectError at h
  refine px_ld rfl rfl rfl rfl rfl ?_
  refine px_ic (k := 64) rfl rfl rfl ?_
  refine px_iclt rfl (by decide) rfl (fun hc => ?_) (fun hc => ?_)
  · replace h := (if_pos hc).symm.trans h
    refine px_forget (n := 0) (lv' := [_, _, _, _, _, _]) rfl ?_
    refine px_forget (n := 1) (lv' := [_, _, _, _, _, _]) rfl ?_
    refine px_forget (n := 2) (lv' := [_, _, _, _, _, _]) rfl ?_
    exact (r_M_objectError_14 h :)
  · replace h := (if_neg hc).symm.trans h
    refine px_ld rfl rfl rfl rfl rfl ?_
    refine px_ld rfl rfl rfl rfl rfl ?_
    obtain ⟨fs, h0, h⟩ := xs_some h
    have e1 := xo_some h0
    obtain ⟨t1, ph2, h0, h⟩ := xb_some h
    refine px_cV1 rfl rfl e1 rfl rfl rfl rfl rfl rfl rfl (r_M_isHeader h0 :) (fun _ _ q => nomatch q.2) (fun r ph' q => ?_)
    obtain ⟨rfl, q⟩ := q
    cases q
    refine px_ifne rfl (by decide) rfl (fun hc => ?_) (fun hc => ?_)
    · replace h := (if_neg hc).symm.trans h
      refine px_ld rfl rfl rfl rfl rfl ?_
      refine px_ld rfl rfl rfl rfl rfl ?_
      obtain ⟨fs, h0, h⟩ := xs_some h
      have e1 := xo_some h0
      obtain ⟨t3, ph4, h0, h⟩ := xb_some h
      refine px_cV1 rfl rfl e1 rfl rfl rfl rfl rfl rfl rfl (r_M_sections h0 :) (fun _ _ q => nomatch q.2) (fun r ph' q => ?_)
      obtain ⟨rfl, q⟩ := q
      cases q
      refine px_st (lv' := [_, _, _, _, _, _]) rfl rfl rfl rfl rfl rfl rfl ?_
      refine px_ld rfl rfl rfl rfl rfl ?_
      refine px_ic (k := 1) rfl rfl rfl ?_
      refine px_iclt rfl (by decide) rfl (fun hc => ?_) (fun hc => ?_)
      · replace h := (if_pos hc).symm.trans h
        refine px_forget (n := 0) (lv' := [_, _, _, _, _, _]) rfl ?_
        refine px_forget (n := 1) (lv' := [_, _, _, _, _, _]) rfl ?_
        refine px_forget (n := 2) (lv' := [_, _, _, _, _, _]) rfl ?_
        refine px_forget (n := 3) (lv' := [_, _, _, _, _, _]) rfl ?_
        exact (r_M_objectError_68 h :)
      · replace h := (if_neg hc).symm.trans h
        refine px_ld rfl rfl rfl rfl rfl ?_
        refine px_ic (k := 24) rfl rfl rfl ?_
        refine px_icgt rfl (by decide) rfl (fun hc => ?_) (fun hc => ?_)
        · replace h := (if_pos hc).symm.trans h
          refine px_forget (n := 0) (lv' := [_, _, _, _, _, _]) rfl ?_
          refine px_forget (n := 1) (lv' := [_, _, _, _, _, _]) rfl ?_
          refine px_forget (n := 2) (lv' := [_, _, _, _, _, _]) rfl ?_
          refine px_forget (n := 3) (lv' := [_, _, _, _, _, _]) rfl ?_
          exact (r_M_objectError_68 h :)
        · replace h := (if_neg hc).symm.trans h
          refine px_ld rfl rfl rfl rfl rfl ?_
          refine px_ld rfl rfl rfl rfl rfl ?_
          refine px_ic (k := 40) rfl rfl rfl ?_
          refine px_alu rfl rfl rfl ?_
          refine px_ic (k := 8) rfl rfl rfl ?_
          obtain ⟨fs, h0, h⟩ := xs_some h
          have e1 := xo_some h0
          obtain ⟨t5, ph6, h0, h⟩ := xb_some h
          refine px_cV2 rfl rfl e1 rfl rfl rfl rfl rfl rfl rfl (r_M_num h0 :) (fun _ _ q => nomatch q.2) (fun r ph' q => ?_)
          obtain ⟨rfl, q⟩ := q
          cases q
          refine px_ldc2 rfl rfl rfl ?_
          refine px_ld rfl rfl rfl rfl rfl ?_
          refine px_alu rfl rfl rfl ?_
          refine px_alu rfl rfl rfl ?_
          refine px_ld rfl rfl rfl rfl rfl ?_
          refine px_alu rfl rfl rfl ?_
          obtain ⟨t7, ph8, h0, h⟩ := xb_some h
          refine px_cS3 rfl rfl rfl rfl rfl rfl rfl (r_M_lies h0 :) (fun _ _ q => nomatch q.2) (fun r ph' q => ?_)
          obtain ⟨rfl, q⟩ := q
          cases q
          refine px_ifeq rfl (by decide) rfl (fun hc => ?_) (fun hc => ?_)
          · replace h := (if_pos hc).symm.trans h
            refine px_forget (n := 0) (lv' := [_, _, _, _, _, _]) rfl ?_
            refine px_forget (n := 1) (lv' := [_, _, _, _, _, _]) rfl ?_
            refine px_forget (n := 2) (lv' := [_, _, _, _, _, _]) rfl ?_
            refine px_forget (n := 3) (lv' := [_, _, _, _, _, _]) rfl ?_
            exact (r_M_objectError_68 h :)
          · replace h := (if_neg hc).symm.trans h
            refine px_ld rfl rfl rfl rfl rfl ?_
            refine px_ld rfl rfl rfl rfl rfl ?_
            refine px_ic (k := 0) rfl rfl rfl ?_
            obtain ⟨fs, h0, h⟩ := xs_some h
            have e1 := xo_some h0
            obtain ⟨t9, ph10, h0, h⟩ := xb_some h
            refine px_cV2 rfl rfl e1 rfl rfl rfl rfl rfl rfl rfl (r_M_type h0 :) (fun _ _ q => nomatch q.2) (fun r ph' q => ?_)
            obtain ⟨rfl, q⟩ := q
            cases q
            refine px_alu rfl rfl rfl ?_
            refine px_alu rfl rfl rfl ?_
            refine px_ifeq rfl (by decide) rfl (fun hc => ?_) (fun hc => ?_)
            · replace h := (if_pos ((lg_cmp_eq _ _).mp hc)).symm.trans h
              refine px_ic (k := 0) rfl rfl rfl ?_
              refine px_st (lv' := [_, _, _, _, _, _]) rfl rfl rfl rfl rfl rfl rfl ?_
              exact (r_M_objectError_73 _ h :)
            · replace h := (if_neg (fun q => hc ((lg_cmp_eq _ _).mpr q))).symm.trans h
              refine px_forget (n := 0) (lv' := [_, _, _, _, _, _]) rfl ?_
              refine px_forget (n := 1) (lv' := [_, _, _, _, _, _]) rfl ?_
              refine px_forget (n := 2) (lv' := [_, _, _, _, _, _]) rfl ?_
              refine px_forget (n := 3) (lv' := [_, _, _, _, _, _]) rfl ?_
              exact (r_M_objectError_68 h :)
    · replace h := (if_pos hc).symm.trans h
      refine px_forget (n := 0) (lv' := [_, _, _, _, _, _]) rfl ?_
      refine px_forget (n := 1) (lv' := [_, _, _, _, _, _]) rfl ?_
      refine px_forget (n := 2) (lv' := [_, _, _, _, _, _]) rfl ?_
      exact (r_M_objectError_14 h :)
def f_M_isMembers_328 (F : Nat) (ph : px_H) : Option (Int32 × px_H) :=
  some (nI 1, ph)
theorem r_M_isMembers_328 {l : Launch} {g : px_G} {d F : Nat} {ph : px_H} {r : Int32} {ph' : px_H} (h : f_M_isMembers_328 F ph = some (r, ph')) : PW l g (d + 0) m_M_isMembers 328 [px_u, px_u, px_u, px_u, px_u, px_u, px_u, px_u, px_u] [] ph (px_qI r ph') := by
  unfold f_M_isMembers_328 at h
  refine px_ic (k := 1) rfl rfl rfl ?_
  cases h
  exact px_iret rfl (Or.inr ⟨rfl, Or.inr rfl⟩) rfl ⟨rfl, rfl⟩
def f_M_isMembers_320 (F : Nat) (ph : px_H) : Option (Int32 × px_H) :=
  some (nI 0, ph)
theorem r_M_isMembers_320 {l : Launch} {g : px_G} {d F : Nat} {ph : px_H} {r : Int32} {ph' : px_H} (h : f_M_isMembers_320 F ph = some (r, ph')) : PW l g (d + 0) m_M_isMembers 320 [px_u, px_u, px_u, px_u, px_u, px_u, px_u, px_u, px_u] [] ph (px_qI r ph') := by
  unfold f_M_isMembers_320 at h
  refine px_ic (k := 0) rfl rfl rfl ?_
  cases h
  exact px_iret rfl (Or.inr ⟨rfl, Or.inl rfl⟩) rfl ⟨rfl, rfl⟩
def f_M_isMembers_267 (F : Nat) (k3 : Nat → Int32 → Int32 → Int32 → px_H → Option (Int32 × px_H)) (a0 : Nat) (a1 : Int32) (a2 : Int32) (a3 : Int32) (a5 : Int64) (s0 : Nat) (s1 : Int32) (s2 : Int32) (ph : px_H) : Option (Int32 × px_H) :=
  (xsI ph 3 s0 s1 (s2 &&& 1)).bind fun ph1 =>
  (xgR ph1 12 8 a0).bind fun t2 =>
  (xaI ph1 1 t2 a1).bind fun t3 =>
  (xsI ph1 1 t2 a1 (t3 + (nI 1))).bind fun ph4 =>
  if (a5 - a5 / ((2 : Int64)) * ((2 : Int64))) = (lN 0) then
    k3 a0 a1 a2 (a3 + a5.toInt32) ph4
  else
    if a2 ≤ (a3 + a5.toInt32) then
      f_M_isMembers_320 F ph4
    else
      (xgR ph4 12 6 a0).bind fun t5 =>
      (xaI ph4 0 t5 (((nI 8192) * a1) + (a3 + a5.toInt32))).bind fun t6 =>
      if t6 = (nI 10) then
        k3 a0 a1 a2 ((a3 + a5.toInt32) + nI 1) ph4
      else
        f_M_isMembers_320 F ph4
theorem r_M_isMembers_267 {l : Launch} {g : px_G} {d F : Nat} {k3 : Nat → Int32 → Int32 → Int32 → px_H → Option (Int32 × px_H)} (hk3 : ∀ {a0 : Nat} {a1 : Int32} {a2 : Int32} {a3 : Int32} {ph : px_H} {r : Int32} {ph' : px_H}, k3 a0 a1 a2 a3 ph = some (r, ph') → PW l g (d + 0) m_M_isMembers 3 [.ref a0, .int a1, .int a2, .int a3, px_u, px_u, px_u, px_u, px_u] [] ph (px_qI r ph')) {a0 : Nat} {a1 : Int32} {a2 : Int32} {a3 : Int32} {a5 : Int64} {s0 : Nat} {s1 : Int32} {s2 : Int32} {ph : px_H} {r : Int32} {ph' : px_H} (h : f_M_isMembers_267 F k3 a0 a1 a2 a3 a5 s0 s1 s2 ph = some (r, ph')) : PW l g (d + 0) m_M_isMembers 267 [.ref a0, .int a1, .int a2, .int a3, px_u, .long a5, px_u, px_u, px_u] [.int s2, .int s1, .ref s0] ph (px_qI r ph') := by
  unfold f_M_isMembers_267 at h
  obtain ⟨ph1, h0, h⟩ := xs_some h
  obtain ⟨N, f, e1, e2, e3⟩ := xsI_some h0
  subst e3
  refine px_zast rfl e1 rfl e2 rfl ?_
  refine px_ld rfl rfl rfl rfl rfl ?_
  obtain ⟨t2, h0, h⟩ := xs_some h
  obtain ⟨fs, e1, e2⟩ := xgR_some h0
  refine px_get rfl e1 e2 rfl ?_
  refine px_ld rfl rfl rfl rfl rfl ?_
  refine px_alu rfl rfl rfl ?_
  obtain ⟨t3, h0, h⟩ := xs_some h
  obtain ⟨N, f, e1, e2, e3⟩ := xaI_some h0
  subst e3
  refine px_iald rfl e1 rfl e2 rfl ?_
  refine px_ic (k := 1) rfl rfl rfl ?_
  refine px_alu rfl rfl rfl ?_
  obtain ⟨ph4, h0, h⟩ := xs_some h
  obtain ⟨N, f, e1, e2, e3⟩ := xsI_some h0
  subst e3
  refine px_iast rfl e1 rfl e2 rfl ?_
  refine px_ld rfl rfl rfl rfl rfl ?_
  refine px_ld rfl rfl rfl rfl rfl ?_
  refine px_alu rfl rfl rfl ?_
  refine px_alu rfl rfl rfl ?_
  refine px_st (lv' := [_, _, _, _, _, _, _, _, _]) rfl rfl rfl rfl rfl rfl rfl ?_
  refine px_ld rfl rfl rfl rfl rfl ?_
  refine px_ldc2 rfl rfl rfl ?_
  refine px_lrem rfl (by decide) rfl ?_
  refine px_alu rfl rfl rfl ?_
  refine px_alu rfl rfl rfl ?_
  refine px_ifne rfl (by decide) rfl (fun hc => ?_) (fun hc => ?_)
  · replace h := (if_neg (fun q => hc ((lg_cmp_eq _ _).mpr q))).symm.trans h
    refine px_ld rfl rfl rfl rfl rfl ?_
    refine px_ld rfl rfl rfl rfl rfl ?_
    refine px_icge rfl (by decide) rfl (fun hc => ?_) (fun hc => ?_)
    · replace h := (if_pos hc).symm.trans h
      refine px_forget (n := 0) (lv' := [_, _, _, _, _, _, _, _, _]) rfl ?_
      refine px_forget (n := 1) (lv' := [_, _, _, _, _, _, _, _, _]) rfl ?_
      refine px_forget (n := 2) (lv' := [_, _, _, _, _, _, _, _, _]) rfl ?_
      refine px_forget (n := 3) (lv' := [_, _, _, _, _, _, _, _, _]) rfl ?_
      refine px_forget (n := 5) (lv' := [_, _, _, _, _, _, _, _, _]) rfl ?_
      exact (r_M_isMembers_320 h :)
    · replace h := (if_neg hc).symm.trans h
      refine px_ld rfl rfl rfl rfl rfl ?_
      obtain ⟨t5, h0, h⟩ := xs_some h
      obtain ⟨fs, e1, e2⟩ := xgR_some h0
      refine px_get rfl e1 e2 rfl ?_
      refine px_ic (k := 8192) rfl rfl rfl ?_
      refine px_ld rfl rfl rfl rfl rfl ?_
      refine px_alu rfl rfl rfl ?_
      refine px_ld rfl rfl rfl rfl rfl ?_
      refine px_alu rfl rfl rfl ?_
      obtain ⟨t6, h0, h⟩ := xs_some h
      obtain ⟨N, f, e1, e2, e3⟩ := xaI_some h0
      subst e3
      refine px_bald rfl e1 rfl e2 rfl ?_
      refine px_ic (k := 10) rfl rfl rfl ?_
      refine px_iceq rfl (by decide) rfl (fun hc => ?_) (fun hc => ?_)
      · replace h := (if_pos hc).symm.trans h
        refine px_iinc (lv' := [_, _, _, _, _, _, _, _, _]) rfl rfl rfl rfl rfl rfl ?_
        refine px_goto rfl (by decide) rfl ?_
        refine px_forget (n := 5) (lv' := [_, _, _, _, _, _, _, _, _]) rfl ?_
        exact (hk3 h :)
      · replace h := (if_neg hc).symm.trans h
        refine px_forget (n := 0) (lv' := [_, _, _, _, _, _, _, _, _]) rfl ?_
        refine px_forget (n := 1) (lv' := [_, _, _, _, _, _, _, _, _]) rfl ?_
        refine px_forget (n := 2) (lv' := [_, _, _, _, _, _, _, _, _]) rfl ?_
        refine px_forget (n := 3) (lv' := [_, _, _, _, _, _, _, _, _]) rfl ?_
        refine px_forget (n := 5) (lv' := [_, _, _, _, _, _, _, _, _]) rfl ?_
        exact (r_M_isMembers_320 h :)
  · replace h := (if_pos ((lg_cmp_eq _ _).mp hc)).symm.trans h
    refine px_goto rfl (by decide) rfl ?_
    refine px_forget (n := 5) (lv' := [_, _, _, _, _, _, _, _, _]) rfl ?_
    exact (hk3 h :)
def f_M_isMembers_205 (F : Nat) (ph : px_H) : Option (Int32 × px_H) :=
  some (nI 0, ph)
theorem r_M_isMembers_205 {l : Launch} {g : px_G} {d F : Nat} {ph : px_H} {r : Int32} {ph' : px_H} (h : f_M_isMembers_205 F ph = some (r, ph')) : PW l g (d + 0) m_M_isMembers 205 [px_u, px_u, px_u, px_u, px_u, px_u, px_u, px_u, px_u] [] ph (px_qI r ph') := by
  unfold f_M_isMembers_205 at h
  refine px_ic (k := 0) rfl rfl rfl ?_
  cases h
  exact px_iret rfl (Or.inr ⟨rfl, Or.inl rfl⟩) rfl ⟨rfl, rfl⟩
def f_M_isMembers_192 (F : Nat) (k3 : Nat → Int32 → Int32 → Int32 → px_H → Option (Int32 × px_H)) (a0 : Nat) (a1 : Int32) (a2 : Int32) (a3 : Int32) (a4 : Int32) (a5 : Int64) (ph : px_H) : Option (Int32 × px_H) :=
  if a5 ≤ ((a2 - (a3 + nI 60)).toInt64) then
    (xgR ph 12 8 a0).bind fun t1 =>
    (xaI ph 1 t1 a1).bind fun t2 =>
    (xgR ph 12 9 a0).bind fun t3 =>
    (xsI ph 1 t3 (((nI 8) * a1) + t2) (((nI 8192) * a1) + (a3 + nI 60))).bind fun ph4 =>
    (xgR ph4 12 10 a0).bind fun t5 =>
    (xsI ph4 1 t5 (((nI 8) * a1) + t2) a5.toInt32).bind fun ph6 =>
    (xgR ph6 12 12 a0).bind fun t7 =>
    (xgR ph6 12 6 a0).bind fun t8 =>
    (xaI ph6 0 t8 a4).bind fun t9 =>
    if t9 = (nI 47) then
      f_M_isMembers_267 F k3 a0 a1 a2 (a3 + nI 60) a5 t7 (((nI 8) * a1) + t2) (nI 1) ph6
    else
      f_M_isMembers_267 F k3 a0 a1 a2 (a3 + nI 60) a5 t7 (((nI 8) * a1) + t2) (nI 0) ph6
  else
    f_M_isMembers_205 F ph
theorem r_M_isMembers_192 {l : Launch} {g : px_G} {d F : Nat} {k3 : Nat → Int32 → Int32 → Int32 → px_H → Option (Int32 × px_H)} (hk3 : ∀ {a0 : Nat} {a1 : Int32} {a2 : Int32} {a3 : Int32} {ph : px_H} {r : Int32} {ph' : px_H}, k3 a0 a1 a2 a3 ph = some (r, ph') → PW l g (d + 0) m_M_isMembers 3 [.ref a0, .int a1, .int a2, .int a3, px_u, px_u, px_u, px_u, px_u] [] ph (px_qI r ph')) {a0 : Nat} {a1 : Int32} {a2 : Int32} {a3 : Int32} {a4 : Int32} {a5 : Int64} {ph : px_H} {r : Int32} {ph' : px_H} (h : f_M_isMembers_192 F k3 a0 a1 a2 a3 a4 a5 ph = some (r, ph')) : PW l g (d + 0) m_M_isMembers 192 [.ref a0, .int a1, .int a2, .int a3, .int a4, .long a5, px_u, px_u, px_u] [] ph (px_qI r ph') := by
  unfold f_M_isMembers_192 at h
  refine px_iinc (lv' := [_, _, _, _, _, _, _, _, _]) rfl rfl rfl rfl rfl rfl ?_
  refine px_ld rfl rfl rfl rfl rfl ?_
  refine px_ld rfl rfl rfl rfl rfl ?_
  refine px_ld rfl rfl rfl rfl rfl ?_
  refine px_alu rfl rfl rfl ?_
  refine px_alu rfl rfl rfl ?_
  refine px_alu rfl rfl rfl ?_
  refine px_ifle rfl (by decide) rfl (fun hc => ?_) (fun hc => ?_)
  · replace h := (if_pos ((lg_cmp_le _ _).mp hc)).symm.trans h
    refine px_ic (k := 8) rfl rfl rfl ?_
    refine px_ld rfl rfl rfl rfl rfl ?_
    refine px_alu rfl rfl rfl ?_
    refine px_ld rfl rfl rfl rfl rfl ?_
    obtain ⟨t1, h0, h⟩ := xs_some h
    obtain ⟨fs, e1, e2⟩ := xgR_some h0
    refine px_get rfl e1 e2 rfl ?_
    refine px_ld rfl rfl rfl rfl rfl ?_
    obtain ⟨t2, h0, h⟩ := xs_some h
    obtain ⟨N, f, e1, e2, e3⟩ := xaI_some h0
    subst e3
    refine px_iald rfl e1 rfl e2 rfl ?_
    refine px_alu rfl rfl rfl ?_
    refine px_st (lv' := [_, _, _, _, _, _, _, _, _]) rfl rfl rfl rfl rfl rfl rfl ?_
    refine px_ld rfl rfl rfl rfl rfl ?_
    obtain ⟨t3, h0, h⟩ := xs_some h
    obtain ⟨fs, e1, e2⟩ := xgR_some h0
    refine px_get rfl e1 e2 rfl ?_
    refine px_ld rfl rfl rfl rfl rfl ?_
    refine px_ic (k := 8192) rfl rfl rfl ?_
    refine px_ld rfl rfl rfl rfl rfl ?_
    refine px_alu rfl rfl rfl ?_
    refine px_ld rfl rfl rfl rfl rfl ?_
    refine px_alu rfl rfl rfl ?_
    obtain ⟨ph4, h0, h⟩ := xs_some h
    obtain ⟨N, f, e1, e2, e3⟩ := xsI_some h0
    subst e3
    refine px_iast rfl e1 rfl e2 rfl ?_
    refine px_ld rfl rfl rfl rfl rfl ?_
    obtain ⟨t5, h0, h⟩ := xs_some h
    obtain ⟨fs, e1, e2⟩ := xgR_some h0
    refine px_get rfl e1 e2 rfl ?_
    refine px_ld rfl rfl rfl rfl rfl ?_
    refine px_ld rfl rfl rfl rfl rfl ?_
    refine px_alu rfl rfl rfl ?_
    obtain ⟨ph6, h0, h⟩ := xs_some h
    obtain ⟨N, f, e1, e2, e3⟩ := xsI_some h0
    subst e3
    refine px_iast rfl e1 rfl e2 rfl ?_
    refine px_ld rfl rfl rfl rfl rfl ?_
    obtain ⟨t7, h0, h⟩ := xs_some h
    obtain ⟨fs, e1, e2⟩ := xgR_some h0
    refine px_get rfl e1 e2 rfl ?_
    refine px_ld rfl rfl rfl rfl rfl ?_
    refine px_ld rfl rfl rfl rfl rfl ?_
    obtain ⟨t8, h0, h⟩ := xs_some h
    obtain ⟨fs, e1, e2⟩ := xgR_some h0
    refine px_get rfl e1 e2 rfl ?_
    refine px_ld rfl rfl rfl rfl rfl ?_
    obtain ⟨t9, h0, h⟩ := xs_some h
    obtain ⟨N, f, e1, e2, e3⟩ := xaI_some h0
    subst e3
    refine px_bald rfl e1 rfl e2 rfl ?_
    refine px_ic (k := 47) rfl rfl rfl ?_
    refine px_icne rfl (by decide) rfl (fun hc => ?_) (fun hc => ?_)
    · replace h := (if_neg hc).symm.trans h
      refine px_ic (k := 0) rfl rfl rfl ?_
      refine px_forget (n := 4) (lv' := [_, _, _, _, _, _, _, _, _]) rfl ?_
      refine px_forget (n := 8) (lv' := [_, _, _, _, _, _, _, _, _]) rfl ?_
      exact (r_M_isMembers_267 @hk3 h :)
    · replace h := (if_pos hc).symm.trans h
      refine px_ic (k := 1) rfl rfl rfl ?_
      refine px_goto rfl (by decide) rfl ?_
      refine px_forget (n := 4) (lv' := [_, _, _, _, _, _, _, _, _]) rfl ?_
      refine px_forget (n := 8) (lv' := [_, _, _, _, _, _, _, _, _]) rfl ?_
      exact (r_M_isMembers_267 @hk3 h :)
  · replace h := (if_neg (fun q => hc ((lg_cmp_le _ _).mpr q))).symm.trans h
    refine px_forget (n := 0) (lv' := [_, _, _, _, _, _, _, _, _]) rfl ?_
    refine px_forget (n := 1) (lv' := [_, _, _, _, _, _, _, _, _]) rfl ?_
    refine px_forget (n := 2) (lv' := [_, _, _, _, _, _, _, _, _]) rfl ?_
    refine px_forget (n := 3) (lv' := [_, _, _, _, _, _, _, _, _]) rfl ?_
    refine px_forget (n := 4) (lv' := [_, _, _, _, _, _, _, _, _]) rfl ?_
    refine px_forget (n := 5) (lv' := [_, _, _, _, _, _, _, _, _]) rfl ?_
    exact (r_M_isMembers_205 h :)
def f_M_isMembers_184 (F : Nat) (ph : px_H) : Option (Int32 × px_H) :=
  some (nI 0, ph)
theorem r_M_isMembers_184 {l : Launch} {g : px_G} {d F : Nat} {ph : px_H} {r : Int32} {ph' : px_H} (h : f_M_isMembers_184 F ph = some (r, ph')) : PW l g (d + 0) m_M_isMembers 184 [px_u, px_u, px_u, px_u, px_u, px_u, px_u, px_u, px_u] [] ph (px_qI r ph') := by
  unfold f_M_isMembers_184 at h
  refine px_ic (k := 0) rfl rfl rfl ?_
  cases h
  exact px_iret rfl (Or.inr ⟨rfl, Or.inl rfl⟩) rfl ⟨rfl, rfl⟩
def f_M_isMembers_159 (F : Nat) (k3 : Nat → Int32 → Int32 → Int32 → px_H → Option (Int32 × px_H)) : Nat → Nat → Int32 → Int32 → Int32 → Int32 → Int64 → Int32 → px_H → Option (Int32 × px_H)
  | 0, _, _, _, _, _, _, _, _ => none
  | n + 1, a0, a1, a2, a3, a4, a5, a7, ph =>
    if (nI 10) ≤ a7 then
      f_M_isMembers_192 F k3 a0 a1 a2 a3 a4 a5 ph
    else
      (xgR ph 12 6 a0).bind fun t1 =>
      (xaI ph 0 t1 ((a4 + (nI 48)) + a7)).bind fun t2 =>
      if t2 = (nI 32) then
        f_M_isMembers_159 F k3 n a0 a1 a2 a3 a4 a5 (a7 + nI 1) ph
      else
        f_M_isMembers_184 F ph
theorem r_M_isMembers_159 {l : Launch} {g : px_G} {d F : Nat} {k3 : Nat → Int32 → Int32 → Int32 → px_H → Option (Int32 × px_H)} (hk3 : ∀ {a0 : Nat} {a1 : Int32} {a2 : Int32} {a3 : Int32} {ph : px_H} {r : Int32} {ph' : px_H}, k3 a0 a1 a2 a3 ph = some (r, ph') → PW l g (d + 0) m_M_isMembers 3 [.ref a0, .int a1, .int a2, .int a3, px_u, px_u, px_u, px_u, px_u] [] ph (px_qI r ph')) : ∀ (n : Nat) {a0 : Nat} {a1 : Int32} {a2 : Int32} {a3 : Int32} {a4 : Int32} {a5 : Int64} {a7 : Int32} {ph : px_H} {r : Int32} {ph' : px_H}, f_M_isMembers_159 F k3 n a0 a1 a2 a3 a4 a5 a7 ph = some (r, ph') → PW l g (d + 0) m_M_isMembers 159 [.ref a0, .int a1, .int a2, .int a3, .int a4, .long a5, px_u, .int a7, px_u] [] ph (px_qI r ph') := by
  intro n
  induction n with
  | zero => intro _ _ _ _ _ _ _ _ _ _ h; cases h
  | succ n ih =>
    intro a0 a1 a2 a3 a4 a5 a7 ph r ph' h
    unfold f_M_isMembers_159 at h
    refine px_ld rfl rfl rfl rfl rfl ?_
    refine px_ic (k := 10) rfl rfl rfl ?_
    refine px_icge rfl (by decide) rfl (fun hc => ?_) (fun hc => ?_)
    · replace h := (if_pos hc).symm.trans h
      refine px_forget (n := 7) (lv' := [_, _, _, _, _, _, _, _, _]) rfl ?_
      exact (r_M_isMembers_192 @hk3 h :)
    · replace h := (if_neg hc).symm.trans h
      refine px_ld rfl rfl rfl rfl rfl ?_
      obtain ⟨t1, h0, h⟩ := xs_some h
      obtain ⟨fs, e1, e2⟩ := xgR_some h0
      refine px_get rfl e1 e2 rfl ?_
      refine px_ld rfl rfl rfl rfl rfl ?_
      refine px_ic (k := 48) rfl rfl rfl ?_
      refine px_alu rfl rfl rfl ?_
      refine px_ld rfl rfl rfl rfl rfl ?_
      refine px_alu rfl rfl rfl ?_
      obtain ⟨t2, h0, h⟩ := xs_some h
      obtain ⟨N, f, e1, e2, e3⟩ := xaI_some h0
      subst e3
      refine px_bald rfl e1 rfl e2 rfl ?_
      refine px_ic (k := 32) rfl rfl rfl ?_
      refine px_iceq rfl (by decide) rfl (fun hc => ?_) (fun hc => ?_)
      · replace h := (if_pos hc).symm.trans h
        refine px_iinc (lv' := [_, _, _, _, _, _, _, _, _]) rfl rfl rfl rfl rfl rfl ?_
        refine px_goto rfl (by decide) rfl ?_
        exact (ih h :)
      · replace h := (if_neg hc).symm.trans h
        refine px_forget (n := 0) (lv' := [_, _, _, _, _, _, _, _, _]) rfl ?_
        refine px_forget (n := 1) (lv' := [_, _, _, _, _, _, _, _, _]) rfl ?_
        refine px_forget (n := 2) (lv' := [_, _, _, _, _, _, _, _, _]) rfl ?_
        refine px_forget (n := 3) (lv' := [_, _, _, _, _, _, _, _, _]) rfl ?_
        refine px_forget (n := 4) (lv' := [_, _, _, _, _, _, _, _, _]) rfl ?_
        refine px_forget (n := 5) (lv' := [_, _, _, _, _, _, _, _, _]) rfl ?_
        refine px_forget (n := 7) (lv' := [_, _, _, _, _, _, _, _, _]) rfl ?_
        exact (r_M_isMembers_184 h :)
def f_M_isMembers_157 (F : Nat) (ph : px_H) : Option (Int32 × px_H) :=
  some (nI 0, ph)
theorem r_M_isMembers_157 {l : Launch} {g : px_G} {d F : Nat} {ph : px_H} {r : Int32} {ph' : px_H} (h : f_M_isMembers_157 F ph = some (r, ph')) : PW l g (d + 0) m_M_isMembers 157 [px_u, px_u, px_u, px_u, px_u, px_u, px_u, px_u, px_u] [] ph (px_qI r ph') := by
  unfold f_M_isMembers_157 at h
  refine px_ic (k := 0) rfl rfl rfl ?_
  cases h
  exact px_iret rfl (Or.inr ⟨rfl, Or.inl rfl⟩) rfl ⟨rfl, rfl⟩
def f_M_isMembers_152 (F : Nat) (k3 : Nat → Int32 → Int32 → Int32 → px_H → Option (Int32 × px_H)) (a0 : Nat) (a1 : Int32) (a2 : Int32) (a3 : Int32) (a4 : Int32) (a5 : Int64) (a7 : Int32) (ph : px_H) : Option (Int32 × px_H) :=
  if a7 = 0 then
    f_M_isMembers_157 F ph
  else
    f_M_isMembers_159 F k3 F a0 a1 a2 a3 a4 a5 a7 ph
theorem r_M_isMembers_152 {l : Launch} {g : px_G} {d F : Nat} {k3 : Nat → Int32 → Int32 → Int32 → px_H → Option (Int32 × px_H)} (hk3 : ∀ {a0 : Nat} {a1 : Int32} {a2 : Int32} {a3 : Int32} {ph : px_H} {r : Int32} {ph' : px_H}, k3 a0 a1 a2 a3 ph = some (r, ph') → PW l g (d + 0) m_M_isMembers 3 [.ref a0, .int a1, .int a2, .int a3, px_u, px_u, px_u, px_u, px_u] [] ph (px_qI r ph')) {a0 : Nat} {a1 : Int32} {a2 : Int32} {a3 : Int32} {a4 : Int32} {a5 : Int64} {a7 : Int32} {ph : px_H} {r : Int32} {ph' : px_H} (h : f_M_isMembers_152 F k3 a0 a1 a2 a3 a4 a5 a7 ph = some (r, ph')) : PW l g (d + 0) m_M_isMembers 152 [.ref a0, .int a1, .int a2, .int a3, .int a4, .long a5, px_u, .int a7, px_u] [] ph (px_qI r ph') := by
  unfold f_M_isMembers_152 at h
  refine px_ld rfl rfl rfl rfl rfl ?_
  refine px_ifne rfl (by decide) rfl (fun hc => ?_) (fun hc => ?_)
  · replace h := (if_neg hc).symm.trans h
    exact (r_M_isMembers_159 @hk3 _ h :)
  · replace h := (if_pos hc).symm.trans h
    refine px_forget (n := 0) (lv' := [_, _, _, _, _, _, _, _, _]) rfl ?_
    refine px_forget (n := 1) (lv' := [_, _, _, _, _, _, _, _, _]) rfl ?_
    refine px_forget (n := 2) (lv' := [_, _, _, _, _, _, _, _, _]) rfl ?_
    refine px_forget (n := 3) (lv' := [_, _, _, _, _, _, _, _, _]) rfl ?_
    refine px_forget (n := 4) (lv' := [_, _, _, _, _, _, _, _, _]) rfl ?_
    refine px_forget (n := 5) (lv' := [_, _, _, _, _, _, _, _, _]) rfl ?_
    refine px_forget (n := 7) (lv' := [_, _, _, _, _, _, _, _, _]) rfl ?_
    exact (r_M_isMembers_157 h :)
def f_M_isMembers_76 (F : Nat) (k3 : Nat → Int32 → Int32 → Int32 → px_H → Option (Int32 × px_H)) : Nat → Nat → Int32 → Int32 → Int32 → Int32 → Int64 → Int32 → px_H → Option (Int32 × px_H)
  | 0, _, _, _, _, _, _, _, _ => none
  | n + 1, a0, a1, a2, a3, a4, a5, a7, ph =>
    if (nI 10) ≤ a7 then
      f_M_isMembers_152 F k3 a0 a1 a2 a3 a4 a5 a7 ph
    else
      (xgR ph 12 6 a0).bind fun t1 =>
      (xaI ph 0 t1 ((a4 + (nI 48)) + a7)).bind fun t2 =>
      if t2 < (nI 48) then
        f_M_isMembers_152 F k3 a0 a1 a2 a3 a4 a5 a7 ph
      else
        (xgR ph 12 6 a0).bind fun t3 =>
        (xaI ph 0 t3 ((a4 + (nI 48)) + a7)).bind fun t4 =>
        if (nI 57) < t4 then
          f_M_isMembers_152 F k3 a0 a1 a2 a3 a4 a5 a7 ph
        else
          (xgR ph 12 6 a0).bind fun t5 =>
          (xaI ph 0 t5 ((a4 + (nI 48)) + a7)).bind fun t6 =>
          f_M_isMembers_76 F k3 n a0 a1 a2 a3 a4 (((((10 : Int64)) * a5) + t6.toInt64) - ((48 : Int64))) (a7 + nI 1) ph
theorem r_M_isMembers_76 {l : Launch} {g : px_G} {d F : Nat} {k3 : Nat → Int32 → Int32 → Int32 → px_H → Option (Int32 × px_H)} (hk3 : ∀ {a0 : Nat} {a1 : Int32} {a2 : Int32} {a3 : Int32} {ph : px_H} {r : Int32} {ph' : px_H}, k3 a0 a1 a2 a3 ph = some (r, ph') → PW l g (d + 0) m_M_isMembers 3 [.ref a0, .int a1, .int a2, .int a3, px_u, px_u, px_u, px_u, px_u] [] ph (px_qI r ph')) : ∀ (n : Nat) {a0 : Nat} {a1 : Int32} {a2 : Int32} {a3 : Int32} {a4 : Int32} {a5 : Int64} {a7 : Int32} {ph : px_H} {r : Int32} {ph' : px_H}, f_M_isMembers_76 F k3 n a0 a1 a2 a3 a4 a5 a7 ph = some (r, ph') → PW l g (d + 0) m_M_isMembers 76 [.ref a0, .int a1, .int a2, .int a3, .int a4, .long a5, px_u, .int a7, px_u] [] ph (px_qI r ph') := by
  intro n
  induction n with
  | zero => intro _ _ _ _ _ _ _ _ _ _ h; cases h
  | succ n ih =>
    intro a0 a1 a2 a3 a4 a5 a7 ph r ph' h
    unfold f_M_isMembers_76 at h
    refine px_ld rfl rfl rfl rfl rfl ?_
    refine px_ic (k := 10) rfl rfl rfl ?_
    refine px_icge rfl (by decide) rfl (fun hc => ?_) (fun hc => ?_)
    · replace h := (if_pos hc).symm.trans h
      exact (r_M_isMembers_152 @hk3 h :)
    · replace h := (if_neg hc).symm.trans h
      refine px_ld rfl rfl rfl rfl rfl ?_
      obtain ⟨t1, h0, h⟩ := xs_some h
      obtain ⟨fs, e1, e2⟩ := xgR_some h0
      refine px_get rfl e1 e2 rfl ?_
      refine px_ld rfl rfl rfl rfl rfl ?_
      refine px_ic (k := 48) rfl rfl rfl ?_
      refine px_alu rfl rfl rfl ?_
      refine px_ld rfl rfl rfl rfl rfl ?_
      refine px_alu rfl rfl rfl ?_
      obtain ⟨t2, h0, h⟩ := xs_some h
      obtain ⟨N, f, e1, e2, e3⟩ := xaI_some h0
      subst e3
      refine px_bald rfl e1 rfl e2 rfl ?_
      refine px_ic (k := 48) rfl rfl rfl ?_
      refine px_iclt rfl (by decide) rfl (fun hc => ?_) (fun hc => ?_)
      · replace h := (if_pos hc).symm.trans h
        exact (r_M_isMembers_152 @hk3 h :)
      · replace h := (if_neg hc).symm.trans h
        refine px_ld rfl rfl rfl rfl rfl ?_
        obtain ⟨t3, h0, h⟩ := xs_some h
        obtain ⟨fs, e1, e2⟩ := xgR_some h0
        refine px_get rfl e1 e2 rfl ?_
        refine px_ld rfl rfl rfl rfl rfl ?_
        refine px_ic (k := 48) rfl rfl rfl ?_
        refine px_alu rfl rfl rfl ?_
        refine px_ld rfl rfl rfl rfl rfl ?_
        refine px_alu rfl rfl rfl ?_
        obtain ⟨t4, h0, h⟩ := xs_some h
        obtain ⟨N, f, e1, e2, e3⟩ := xaI_some h0
        subst e3
        refine px_bald rfl e1 rfl e2 rfl ?_
        refine px_ic (k := 57) rfl rfl rfl ?_
        refine px_icgt rfl (by decide) rfl (fun hc => ?_) (fun hc => ?_)
        · replace h := (if_pos hc).symm.trans h
          exact (r_M_isMembers_152 @hk3 h :)
        · replace h := (if_neg hc).symm.trans h
          refine px_ldc2 rfl rfl rfl ?_
          refine px_ld rfl rfl rfl rfl rfl ?_
          refine px_alu rfl rfl rfl ?_
          refine px_ld rfl rfl rfl rfl rfl ?_
          obtain ⟨t5, h0, h⟩ := xs_some h
          obtain ⟨fs, e1, e2⟩ := xgR_some h0
          refine px_get rfl e1 e2 rfl ?_
          refine px_ld rfl rfl rfl rfl rfl ?_
          refine px_ic (k := 48) rfl rfl rfl ?_
          refine px_alu rfl rfl rfl ?_
          refine px_ld rfl rfl rfl rfl rfl ?_
          refine px_alu rfl rfl rfl ?_
          obtain ⟨t6, h0, h⟩ := xs_some h
          obtain ⟨N, f, e1, e2, e3⟩ := xaI_some h0
          subst e3
          refine px_bald rfl e1 rfl e2 rfl ?_
          refine px_alu rfl rfl rfl ?_
          refine px_alu rfl rfl rfl ?_
          refine px_ldc2 rfl rfl rfl ?_
          refine px_alu rfl rfl rfl ?_
          refine px_st (lv' := [_, _, _, _, _, _, _, _, _]) rfl rfl rfl rfl rfl rfl rfl ?_
          refine px_iinc (lv' := [_, _, _, _, _, _, _, _, _]) rfl rfl rfl rfl rfl rfl ?_
          refine px_goto rfl (by decide) rfl ?_
          exact (ih h :)
def f_M_isMembers_68 (F : Nat) (ph : px_H) : Option (Int32 × px_H) :=
  some (nI 0, ph)
theorem r_M_isMembers_68 {l : Launch} {g : px_G} {d F : Nat} {ph : px_H} {r : Int32} {ph' : px_H} (h : f_M_isMembers_68 F ph = some (r, ph')) : PW l g (d + 0) m_M_isMembers 68 [px_u, px_u, px_u, px_u, px_u, px_u, px_u, px_u, px_u] [] ph (px_qI r ph') := by
  unfold f_M_isMembers_68 at h
  refine px_ic (k := 0) rfl rfl rfl ?_
  cases h
  exact px_iret rfl (Or.inr ⟨rfl, Or.inl rfl⟩) rfl ⟨rfl, rfl⟩
def f_M_isMembers_27 (F : Nat) (ph : px_H) : Option (Int32 × px_H) :=
  some (nI 0, ph)
theorem r_M_isMembers_27 {l : Launch} {g : px_G} {d F : Nat} {ph : px_H} {r : Int32} {ph' : px_H} (h : f_M_isMembers_27 F ph = some (r, ph')) : PW l g (d + 0) m_M_isMembers 27 [px_u, px_u, px_u, px_u, px_u, px_u, px_u, px_u, px_u] [] ph (px_qI r ph') := by
  unfold f_M_isMembers_27 at h
  refine px_ic (k := 0) rfl rfl rfl ?_
  cases h
  exact px_iret rfl (Or.inr ⟨rfl, Or.inl rfl⟩) rfl ⟨rfl, rfl⟩
def f_M_isMembers_3 (F : Nat) : Nat → Nat → Int32 → Int32 → Int32 → px_H → Option (Int32 × px_H)
  | 0, _, _, _, _, _ => none
  | n + 1, a0, a1, a2, a3, ph =>
    if a2 ≤ a3 then
      f_M_isMembers_328 F ph
    else
      (xgR ph 12 8 a0).bind fun t1 =>
      (xaI ph 1 t1 a1).bind fun t2 =>
      if t2 = (nI 8) then
        f_M_isMembers_27 F ph
      else
        if (a3 + (nI 60)) ≤ a2 then
          (xgR ph 12 6 a0).bind fun t3 =>
          (xaI ph 0 t3 ((((nI 8192) * a1) + a3) + (nI 58))).bind fun t4 =>
          if t4 = (nI 96) then
            (xgR ph 12 6 a0).bind fun t5 =>
            (xaI ph 0 t5 ((((nI 8192) * a1) + a3) + (nI 59))).bind fun t6 =>
            if t6 = (nI 10) then
              f_M_isMembers_76 F (f_M_isMembers_3 F n) F a0 a1 a2 a3 (((nI 8192) * a1) + a3) (lN 0) (nI 0) ph
            else
              f_M_isMembers_68 F ph
          else
            f_M_isMembers_68 F ph
        else
          f_M_isMembers_27 F ph
theorem r_M_isMembers_3 {l : Launch} {g : px_G} {d F : Nat} : ∀ (n : Nat) {a0 : Nat} {a1 : Int32} {a2 : Int32} {a3 : Int32} {ph : px_H} {r : Int32} {ph' : px_H}, f_M_isMembers_3 F n a0 a1 a2 a3 ph = some (r, ph') → PW l g (d + 0) m_M_isMembers 3 [.ref a0, .int a1, .int a2, .int a3, px_u, px_u, px_u, px_u, px_u] [] ph (px_qI r ph') := by
  intro n
  induction n with
  | zero => intro _ _ _ _ _ _ _ h; cases h
  | succ n ih =>
    intro a0 a1 a2 a3 ph r ph' h
    unfold f_M_isMembers_3 at h
    refine px_ld rfl rfl rfl rfl rfl ?_
    refine px_ld rfl rfl rfl rfl rfl ?_
    refine px_icge rfl (by decide) rfl (fun hc => ?_) (fun hc => ?_)
    · replace h := (if_pos hc).symm.trans h
      refine px_forget (n := 0) (lv' := [_, _, _, _, _, _, _, _, _]) rfl ?_
      refine px_forget (n := 1) (lv' := [_, _, _, _, _, _, _, _, _]) rfl ?_
      refine px_forget (n := 2) (lv' := [_, _, _, _, _, _, _, _, _]) rfl ?_
      refine px_forget (n := 3) (lv' := [_, _, _, _, _, _, _, _, _]) rfl ?_
      exact (r_M_isMembers_328 h :)
    · replace h := (if_neg hc).symm.trans h
      refine px_ld rfl rfl rfl rfl rfl ?_
      obtain ⟨t1, h0, h⟩ := xs_some h
      obtain ⟨fs, e1, e2⟩ := xgR_some h0
      refine px_get rfl e1 e2 rfl ?_
      refine px_ld rfl rfl rfl rfl rfl ?_
      obtain ⟨t2, h0, h⟩ := xs_some h
      obtain ⟨N, f, e1, e2, e3⟩ := xaI_some h0
      subst e3
      refine px_iald rfl e1 rfl e2 rfl ?_
      refine px_ic (k := 8) rfl rfl rfl ?_
      refine px_iceq rfl (by decide) rfl (fun hc => ?_) (fun hc => ?_)
      · replace h := (if_pos hc).symm.trans h
        refine px_forget (n := 0) (lv' := [_, _, _, _, _, _, _, _, _]) rfl ?_
        refine px_forget (n := 1) (lv' := [_, _, _, _, _, _, _, _, _]) rfl ?_
        refine px_forget (n := 2) (lv' := [_, _, _, _, _, _, _, _, _]) rfl ?_
        refine px_forget (n := 3) (lv' := [_, _, _, _, _, _, _, _, _]) rfl ?_
        exact (r_M_isMembers_27 h :)
      · replace h := (if_neg hc).symm.trans h
        refine px_ld rfl rfl rfl rfl rfl ?_
        refine px_ic (k := 60) rfl rfl rfl ?_
        refine px_alu rfl rfl rfl ?_
        refine px_ld rfl rfl rfl rfl rfl ?_
        refine px_icle rfl (by decide) rfl (fun hc => ?_) (fun hc => ?_)
        · replace h := (if_pos hc).symm.trans h
          refine px_ic (k := 8192) rfl rfl rfl ?_
          refine px_ld rfl rfl rfl rfl rfl ?_
          refine px_alu rfl rfl rfl ?_
          refine px_ld rfl rfl rfl rfl rfl ?_
          refine px_alu rfl rfl rfl ?_
          refine px_st (lv' := [_, _, _, _, _, _, _, _, _]) rfl rfl rfl rfl rfl rfl rfl ?_
          refine px_ld rfl rfl rfl rfl rfl ?_
          obtain ⟨t3, h0, h⟩ := xs_some h
          obtain ⟨fs, e1, e2⟩ := xgR_some h0
          refine px_get rfl e1 e2 rfl ?_
          refine px_ld rfl rfl rfl rfl rfl ?_
          refine px_ic (k := 58) rfl rfl rfl ?_
          refine px_alu rfl rfl rfl ?_
          obtain ⟨t4, h0, h⟩ := xs_some h
          obtain ⟨N, f, e1, e2, e3⟩ := xaI_some h0
          subst e3
          refine px_bald rfl e1 rfl e2 rfl ?_
          refine px_ic (k := 96) rfl rfl rfl ?_
          refine px_icne rfl (by decide) rfl (fun hc => ?_) (fun hc => ?_)
          · replace h := (if_neg hc).symm.trans h
            refine px_forget (n := 0) (lv' := [_, _, _, _, _, _, _, _, _]) rfl ?_
            refine px_forget (n := 1) (lv' := [_, _, _, _, _, _, _, _, _]) rfl ?_
            refine px_forget (n := 2) (lv' := [_, _, _, _, _, _, _, _, _]) rfl ?_
            refine px_forget (n := 3) (lv' := [_, _, _, _, _, _, _, _, _]) rfl ?_
            refine px_forget (n := 4) (lv' := [_, _, _, _, _, _, _, _, _]) rfl ?_
            exact (r_M_isMembers_68 h :)
          · replace h := (if_pos hc).symm.trans h
            refine px_ld rfl rfl rfl rfl rfl ?_
            obtain ⟨t5, h0, h⟩ := xs_some h
            obtain ⟨fs, e1, e2⟩ := xgR_some h0
            refine px_get rfl e1 e2 rfl ?_
            refine px_ld rfl rfl rfl rfl rfl ?_
            refine px_ic (k := 59) rfl rfl rfl ?_
            refine px_alu rfl rfl rfl ?_
            obtain ⟨t6, h0, h⟩ := xs_some h
            obtain ⟨N, f, e1, e2, e3⟩ := xaI_some h0
            subst e3
            refine px_bald rfl e1 rfl e2 rfl ?_
            refine px_ic (k := 10) rfl rfl rfl ?_
            refine px_iceq rfl (by decide) rfl (fun hc => ?_) (fun hc => ?_)
            · replace h := (if_pos hc).symm.trans h
              refine px_alu rfl rfl rfl ?_
              refine px_st (lv' := [_, _, _, _, _, _, _, _, _]) rfl rfl rfl rfl rfl rfl rfl ?_
              refine px_ic (k := 0) rfl rfl rfl ?_
              refine px_st (lv' := [_, _, _, _, _, _, _, _, _]) rfl rfl rfl rfl rfl rfl rfl ?_
              exact (r_M_isMembers_76 @ih _ h :)
            · replace h := (if_neg hc).symm.trans h
              refine px_forget (n := 0) (lv' := [_, _, _, _, _, _, _, _, _]) rfl ?_
              refine px_forget (n := 1) (lv' := [_, _, _, _, _, _, _, _, _]) rfl ?_
              refine px_forget (n := 2) (lv' := [_, _, _, _, _, _, _, _, _]) rfl ?_
              refine px_forget (n := 3) (lv' := [_, _, _, _, _, _, _, _, _]) rfl ?_
              refine px_forget (n := 4) (lv' := [_, _, _, _, _, _, _, _, _]) rfl ?_
              exact (r_M_isMembers_68 h :)
        · replace h := (if_neg hc).symm.trans h
          refine px_forget (n := 0) (lv' := [_, _, _, _, _, _, _, _, _]) rfl ?_
          refine px_forget (n := 1) (lv' := [_, _, _, _, _, _, _, _, _]) rfl ?_
          refine px_forget (n := 2) (lv' := [_, _, _, _, _, _, _, _, _]) rfl ?_
          refine px_forget (n := 3) (lv' := [_, _, _, _, _, _, _, _, _]) rfl ?_
          exact (r_M_isMembers_27 h :)
def f_M_isMembers (F : Nat) (a0 : Nat) (a1 : Int32) (a2 : Int32) (ph : px_H) : Option (Int32 × px_H) :=
  f_M_isMembers_3 F F a0 a1 a2 (nI 8) ph
theorem r_M_isMembers {l : Launch} {g : px_G} {d F : Nat} {a0 : Nat} {a1 : Int32} {a2 : Int32} {ph : px_H} {r : Int32} {ph' : px_H} (h : f_M_isMembers F a0 a1 a2 ph = some (r, ph')) : PW l g (d + 0) m_M_isMembers 0 [.ref a0, .int a1, .int a2, px_u, px_u, px_u, px_u, px_u, px_u] [] ph (px_qI r ph') := by
  unfold f_M_isMembers at h
  refine px_ic (k := 8) rfl rfl rfl ?_
  refine px_st (lv' := [_, _, _, _, _, _, _, _, _]) rfl rfl rfl rfl rfl rfl rfl ?_
  exact (r_M_isMembers_3 _ h :)
def f_M_fileError_179 (F : Nat) (a3 : Int32) (ph : px_H) : Option (Int32 × px_H) :=
  some (a3, ph)
theorem r_M_fileError_179 {l : Launch} {g : px_G} {d F : Nat} {a3 : Int32} {ph : px_H} {r : Int32} {ph' : px_H} (h : f_M_fileError_179 F a3 ph = some (r, ph')) : PW l g (d + 9) m_M_fileError 179 [px_u, px_u, px_u, .int a3, px_u, px_u] [] ph (px_qI r ph') := by
  unfold f_M_fileError_179 at h
  refine px_ld rfl rfl rfl rfl rfl ?_
  cases h
  exact px_iret rfl (Or.inl rfl) rfl ⟨rfl, rfl⟩
def f_M_fileError_173 (F : Nat) (k120 : Nat → Int32 → Int32 → Int32 → px_H → Option (Int32 × px_H)) (a0 : Nat) (a1 : Int32) (a3 : Int32) (a4 : Int32) (ph : px_H) : Option (Int32 × px_H) :=
  k120 a0 a1 a3 (a4 + nI 1) ph
theorem r_M_fileError_173 {l : Launch} {g : px_G} {d F : Nat} {k120 : Nat → Int32 → Int32 → Int32 → px_H → Option (Int32 × px_H)} (hk120 : ∀ {a0 : Nat} {a1 : Int32} {a3 : Int32} {a4 : Int32} {ph : px_H} {r : Int32} {ph' : px_H}, k120 a0 a1 a3 a4 ph = some (r, ph') → PW l g (d + 9) m_M_fileError 120 [.ref a0, .int a1, px_u, .int a3, .int a4, px_u] [] ph (px_qI r ph')) {a0 : Nat} {a1 : Int32} {a3 : Int32} {a4 : Int32} {ph : px_H} {r : Int32} {ph' : px_H} (h : f_M_fileError_173 F k120 a0 a1 a3 a4 ph = some (r, ph')) : PW l g (d + 9) m_M_fileError 173 [.ref a0, .int a1, px_u, .int a3, .int a4, px_u] [] ph (px_qI r ph') := by
  unfold f_M_fileError_173 at h
  refine px_iinc (lv' := [_, _, _, _, _, _]) rfl rfl rfl rfl rfl rfl ?_
  refine px_goto rfl (by decide) rfl ?_
  exact (hk120 h :)
def f_M_fileError_120 (F : Nat) : Nat → Nat → Int32 → Int32 → Int32 → px_H → Option (Int32 × px_H)
  | 0, _, _, _, _, _ => none
  | n + 1, a0, a1, a3, a4, ph =>
    (xgR ph 12 8 a0).bind fun t1 =>
    (xaI ph 1 t1 a1).bind fun t2 =>
    if t2 ≤ a4 then
      f_M_fileError_179 F a3 ph
    else
      if a3 = 0 then
        (xgR ph 12 12 a0).bind fun t3 =>
        (xaI ph 3 t3 (((nI 8) * a1) + a4)).bind fun t4 =>
        if t4 = 0 then
          (xgR ph 12 9 a0).bind fun t5 =>
          (xaI ph 1 t5 (((nI 8) * a1) + a4)).bind fun t6 =>
          (xgR ph 12 10 a0).bind fun t7 =>
          (xaI ph 1 t7 (((nI 8) * a1) + a4)).bind fun t8 =>
          (xo ph 12 a0).bind fun _ =>
          xb (f_M_objectError F a0 t6 t8 ph) fun t9 ph10 =>
          f_M_fileError_173 F (f_M_fileError_120 F n) a0 a1 t9 a4 ph10
        else
          f_M_fileError_173 F (f_M_fileError_120 F n) a0 a1 a3 a4 ph
      else
        f_M_fileError_179 F a3 ph
theorem r_M_fileError_120 {l : Launch} {g : px_G} {d F : Nat} : ∀ (n : Nat) {a0 : Nat} {a1 : Int32} {a3 : Int32} {a4 : Int32} {ph : px_H} {r : Int32} {ph' : px_H}, f_M_fileError_120 F n a0 a1 a3 a4 ph = some (r, ph') → PW l g (d + 9) m_M_fileError 120 [.ref a0, .int a1, px_u, .int a3, .int a4, px_u] [] ph (px_qI r ph') := by
  intro n
  induction n with
  | zero => intro _ _ _ _ _ _ _ h; cases h
  | succ n ih =>
    intro a0 a1 a3 a4 ph r ph' h
    unfold f_M_fileError_120 at h
    refine px_ld rfl rfl rfl rfl rfl ?_
    refine px_ld rfl rfl rfl rfl rfl ?_
    obtain ⟨t1, h0, h⟩ := xs_some h
    obtain ⟨fs, e1, e2⟩ := xgR_some h0
    refine px_get rfl e1 e2 rfl ?_
    refine px_ld rfl rfl rfl rfl rfl ?_
    obtain ⟨t2, h0, h⟩ := xs_some h
    obtain ⟨N, f, e1, e2, e3⟩ := xaI_some h0
    subst e3
    refine px_iald rfl e1 rfl e2 rfl ?_
    refine px_icge rfl (by decide) rfl (fun hc => ?_) (fun hc => ?_)
    · replace h := (if_pos hc).symm.trans h
      refine px_forget (n := 0) (lv' := [_, _, _, _, _, _]) rfl ?_
      refine px_forget (n := 1) (lv' := [_, _, _, _, _, _]) rfl ?_
      refine px_forget (n := 4) (lv' := [_, _, _, _, _, _]) rfl ?_
      exact (r_M_fileError_179 h :)
    · replace h := (if_neg hc).symm.trans h
      refine px_ld rfl rfl rfl rfl rfl ?_
      refine px_ifne rfl (by decide) rfl (fun hc => ?_) (fun hc => ?_)
      · replace h := (if_neg hc).symm.trans h
        refine px_forget (n := 0) (lv' := [_, _, _, _, _, _]) rfl ?_
        refine px_forget (n := 1) (lv' := [_, _, _, _, _, _]) rfl ?_
        refine px_forget (n := 4) (lv' := [_, _, _, _, _, _]) rfl ?_
        exact (r_M_fileError_179 h :)
      · replace h := (if_pos hc).symm.trans h
        refine px_ic (k := 8) rfl rfl rfl ?_
        refine px_ld rfl rfl rfl rfl rfl ?_
        refine px_alu rfl rfl rfl ?_
        refine px_ld rfl rfl rfl rfl rfl ?_
        refine px_alu rfl rfl rfl ?_
        refine px_st (lv' := [_, _, _, _, _, _]) rfl rfl rfl rfl rfl rfl rfl ?_
        refine px_ld rfl rfl rfl rfl rfl ?_
        obtain ⟨t3, h0, h⟩ := xs_some h
        obtain ⟨fs, e1, e2⟩ := xgR_some h0
        refine px_get rfl e1 e2 rfl ?_
        refine px_ld rfl rfl rfl rfl rfl ?_
        obtain ⟨t4, h0, h⟩ := xs_some h
        obtain ⟨N, f, e1, e2, e3⟩ := xaI_some h0
        subst e3
        refine px_zald rfl e1 rfl e2 rfl ?_
        refine px_ifne rfl (by decide) rfl (fun hc => ?_) (fun hc => ?_)
        · replace h := (if_neg hc).symm.trans h
          refine px_forget (n := 5) (lv' := [_, _, _, _, _, _]) rfl ?_
          exact (r_M_fileError_173 @ih h :)
        · replace h := (if_pos hc).symm.trans h
          refine px_ld rfl rfl rfl rfl rfl ?_
          refine px_ld rfl rfl rfl rfl rfl ?_
          obtain ⟨t5, h0, h⟩ := xs_some h
          obtain ⟨fs, e1, e2⟩ := xgR_some h0
          refine px_get rfl e1 e2 rfl ?_
          refine px_ld rfl rfl rfl rfl rfl ?_
          obtain ⟨t6, h0, h⟩ := xs_some h
          obtain ⟨N, f, e1, e2, e3⟩ := xaI_some h0
          subst e3
          refine px_iald rfl e1 rfl e2 rfl ?_
          refine px_ld rfl rfl rfl rfl rfl ?_
          obtain ⟨t7, h0, h⟩ := xs_some h
          obtain ⟨fs, e1, e2⟩ := xgR_some h0
          refine px_get rfl e1 e2 rfl ?_
          refine px_ld rfl rfl rfl rfl rfl ?_
          obtain ⟨t8, h0, h⟩ := xs_some h
          obtain ⟨N, f, e1, e2, e3⟩ := xaI_some h0
          subst e3
          refine px_iald rfl e1 rfl e2 rfl ?_
          obtain ⟨fs, h0, h⟩ := xs_some h
          have e1 := xo_some h0
          obtain ⟨t9, ph10, h0, h⟩ := xb_some h
          refine px_cV2 rfl rfl e1 rfl rfl rfl rfl rfl rfl rfl (r_M_objectError h0 :) (fun _ _ q => nomatch q.2) (fun r ph' q => ?_)
          obtain ⟨rfl, q⟩ := q
          cases q
          refine px_st (lv' := [_, _, _, _, _, _]) rfl rfl rfl rfl rfl rfl rfl ?_
          refine px_forget (n := 5) (lv' := [_, _, _, _, _, _]) rfl ?_
          exact (r_M_fileError_173 @ih h :)
def f_M_fileError_41 (F : Nat) (a0 : Nat) (a1 : Int32) (a2 : Int32) (s0 : Nat) (s1 : Int32) (s2 : Int32) (ph : px_H) : Option (Int32 × px_H) :=
  (xsI ph 3 s0 s1 (s2 &&& 1)).bind fun ph1 =>
  (xgR ph1 12 11 a0).bind fun t2 =>
  (xaI ph1 3 t2 a1).bind fun t3 =>
  if t3 = 0 then
    (xgR ph1 12 8 a0).bind fun t6 =>
    (xsI ph1 1 t6 a1 (nI 1)).bind fun ph7 =>
    (xgR ph7 12 9 a0).bind fun t8 =>
    (xsI ph7 1 t8 ((nI 8) * a1) ((nI 8192) * a1)).bind fun ph9 =>
    (xgR ph9 12 10 a0).bind fun t10 =>
    (xsI ph9 1 t10 ((nI 8) * a1) a2).bind fun ph11 =>
    (xgR ph11 12 12 a0).bind fun t12 =>
    (xsI ph11 3 t12 ((nI 8) * a1) ((nI 0) &&& 1)).bind fun ph13 =>
    (xo ph13 12 a0).bind fun _ =>
    xb (f_M_objectError F a0 ((nI 8192) * a1) a2 ph13) fun t14 ph15 =>
    some (t14, ph15)
  else
    (xo ph1 12 a0).bind fun _ =>
    xb (f_M_isMembers F a0 a1 a2 ph1) fun t4 ph5 =>
    if t4 = 0 then
      some (nI 8, ph5)
    else
      f_M_fileError_120 F F a0 a1 (nI 0) (nI 0) ph5
theorem r_M_fileError_41 {l : Launch} {g : px_G} {d F : Nat} {a0 : Nat} {a1 : Int32} {a2 : Int32} {s0 : Nat} {s1 : Int32} {s2 : Int32} {ph : px_H} {r : Int32} {ph' : px_H} (h : f_M_fileError_41 F a0 a1 a2 s0 s1 s2 ph = some (r, ph')) : PW l g (d + 9) m_M_fileError 41 [.ref a0, .int a1, .int a2, px_u, px_u, px_u] [.int s2, .int s1, .ref s0] ph (px_qI r ph') := by
  unfold f_M_fileError_41 at h
  obtain ⟨ph1, h0, h⟩ := xs_some h
  obtain ⟨N, f, e1, e2, e3⟩ := xsI_some h0
  subst e3
  refine px_zast rfl e1 rfl e2 rfl ?_
  refine px_ld rfl rfl rfl rfl rfl ?_
  obtain ⟨t2, h0, h⟩ := xs_some h
  obtain ⟨fs, e1, e2⟩ := xgR_some h0
  refine px_get rfl e1 e2 rfl ?_
  refine px_ld rfl rfl rfl rfl rfl ?_
  obtain ⟨t3, h0, h⟩ := xs_some h
  obtain ⟨N, f, e1, e2, e3⟩ := xaI_some h0
  subst e3
  refine px_zald rfl e1 rfl e2 rfl ?_
  refine px_ifne rfl (by decide) rfl (fun hc => ?_) (fun hc => ?_)
  · replace h := (if_neg hc).symm.trans h
    refine px_ld rfl rfl rfl rfl rfl ?_
    refine px_ld rfl rfl rfl rfl rfl ?_
    refine px_ld rfl rfl rfl rfl rfl ?_
    obtain ⟨fs, h0, h⟩ := xs_some h
    have e1 := xo_some h0
    obtain ⟨t4, ph5, h0, h⟩ := xb_some h
    refine px_cV2 rfl rfl e1 rfl rfl rfl rfl rfl rfl rfl (r_M_isMembers h0 :) (fun _ _ q => nomatch q.2) (fun r ph' q => ?_)
    obtain ⟨rfl, q⟩ := q
    cases q
    refine px_ifne rfl (by decide) rfl (fun hc => ?_) (fun hc => ?_)
    · replace h := (if_neg hc).symm.trans h
      refine px_ic (k := 0) rfl rfl rfl ?_
      refine px_st (lv' := [_, _, _, _, _, _]) rfl rfl rfl rfl rfl rfl rfl ?_
      refine px_ic (k := 0) rfl rfl rfl ?_
      refine px_st (lv' := [_, _, _, _, _, _]) rfl rfl rfl rfl rfl rfl rfl ?_
      refine px_forget (n := 2) (lv' := [_, _, _, _, _, _]) rfl ?_
      exact (r_M_fileError_120 _ h :)
    · replace h := (if_pos hc).symm.trans h
      refine px_ic (k := 8) rfl rfl rfl ?_
      cases h
      exact px_iret rfl (Or.inl rfl) rfl ⟨rfl, rfl⟩
  · replace h := (if_pos hc).symm.trans h
    refine px_ld rfl rfl rfl rfl rfl ?_
    obtain ⟨t6, h0, h⟩ := xs_some h
    obtain ⟨fs, e1, e2⟩ := xgR_some h0
    refine px_get rfl e1 e2 rfl ?_
    refine px_ld rfl rfl rfl rfl rfl ?_
    refine px_ic (k := 1) rfl rfl rfl ?_
    obtain ⟨ph7, h0, h⟩ := xs_some h
    obtain ⟨N, f, e1, e2, e3⟩ := xsI_some h0
    subst e3
    refine px_iast rfl e1 rfl e2 rfl ?_
    refine px_ld rfl rfl rfl rfl rfl ?_
    obtain ⟨t8, h0, h⟩ := xs_some h
    obtain ⟨fs, e1, e2⟩ := xgR_some h0
    refine px_get rfl e1 e2 rfl ?_
    refine px_ic (k := 8) rfl rfl rfl ?_
    refine px_ld rfl rfl rfl rfl rfl ?_
    refine px_alu rfl rfl rfl ?_
    refine px_ic (k := 8192) rfl rfl rfl ?_
    refine px_ld rfl rfl rfl rfl rfl ?_
    refine px_alu rfl rfl rfl ?_
    obtain ⟨ph9, h0, h⟩ := xs_some h
    obtain ⟨N, f, e1, e2, e3⟩ := xsI_some h0
    subst e3
    refine px_iast rfl e1 rfl e2 rfl ?_
    refine px_ld rfl rfl rfl rfl rfl ?_
    obtain ⟨t10, h0, h⟩ := xs_some h
    obtain ⟨fs, e1, e2⟩ := xgR_some h0
    refine px_get rfl e1 e2 rfl ?_
    refine px_ic (k := 8) rfl rfl rfl ?_
    refine px_ld rfl rfl rfl rfl rfl ?_
    refine px_alu rfl rfl rfl ?_
    refine px_ld rfl rfl rfl rfl rfl ?_
    obtain ⟨ph11, h0, h⟩ := xs_some h
    obtain ⟨N, f, e1, e2, e3⟩ := xsI_some h0
    subst e3
    refine px_iast rfl e1 rfl e2 rfl ?_
    refine px_ld rfl rfl rfl rfl rfl ?_
    obtain ⟨t12, h0, h⟩ := xs_some h
    obtain ⟨fs, e1, e2⟩ := xgR_some h0
    refine px_get rfl e1 e2 rfl ?_
    refine px_ic (k := 8) rfl rfl rfl ?_
    refine px_ld rfl rfl rfl rfl rfl ?_
    refine px_alu rfl rfl rfl ?_
    refine px_ic (k := 0) rfl rfl rfl ?_
    obtain ⟨ph13, h0, h⟩ := xs_some h
    obtain ⟨N, f, e1, e2, e3⟩ := xsI_some h0
    subst e3
    refine px_zast rfl e1 rfl e2 rfl ?_
    refine px_ld rfl rfl rfl rfl rfl ?_
    refine px_ic (k := 8192) rfl rfl rfl ?_
    refine px_ld rfl rfl rfl rfl rfl ?_
    refine px_alu rfl rfl rfl ?_
    refine px_ld rfl rfl rfl rfl rfl ?_
    obtain ⟨fs, h0, h⟩ := xs_some h
    have e1 := xo_some h0
    obtain ⟨t14, ph15, h0, h⟩ := xb_some h
    refine px_cV2 rfl rfl e1 rfl rfl rfl rfl rfl rfl rfl (r_M_objectError h0 :) (fun _ _ q => nomatch q.2) (fun r ph' q => ?_)
    obtain ⟨rfl, q⟩ := q
    cases q
    cases h
    exact px_iret rfl (Or.inl rfl) rfl ⟨rfl, rfl⟩
def f_M_fileError_40 (F : Nat) (a0 : Nat) (a1 : Int32) (a2 : Int32) (s0 : Nat) (s1 : Int32) (ph : px_H) : Option (Int32 × px_H) :=
  f_M_fileError_41 F a0 a1 a2 s0 s1 (nI 0) ph
theorem r_M_fileError_40 {l : Launch} {g : px_G} {d F : Nat} {a0 : Nat} {a1 : Int32} {a2 : Int32} {s0 : Nat} {s1 : Int32} {ph : px_H} {r : Int32} {ph' : px_H} (h : f_M_fileError_40 F a0 a1 a2 s0 s1 ph = some (r, ph')) : PW l g (d + 9) m_M_fileError 40 [.ref a0, .int a1, .int a2, px_u, px_u, px_u] [.int s1, .ref s0] ph (px_qI r ph') := by
  unfold f_M_fileError_40 at h
  refine px_ic (k := 0) rfl rfl rfl ?_
  exact (r_M_fileError_41 h :)
def f_M_fileError (F : Nat) (a0 : Nat) (a1 : Int32) (a2 : Int32) (ph : px_H) : Option (Int32 × px_H) :=
  (xgR ph 12 8 a0).bind fun t1 =>
  (xsI ph 1 t1 a1 (nI 0)).bind fun ph2 =>
  (xgR ph2 12 11 a0).bind fun t3 =>
  if a2 ≤ (nI 7) then
    f_M_fileError_40 F a0 a1 a2 t3 a1 ph2
  else
    (xo ph2 12 a0).bind fun _ =>
    xb (f_M_num F a0 ((nI 8192) * a1) (nI 8) ph2) fun t4 ph5 =>
    if t4 = ((738142165265366049 : Int64)) then
      f_M_fileError_41 F a0 a1 a2 t3 a1 (nI 1) ph5
    else
      f_M_fileError_40 F a0 a1 a2 t3 a1 ph5
theorem r_M_fileError {l : Launch} {g : px_G} {d F : Nat} {a0 : Nat} {a1 : Int32} {a2 : Int32} {ph : px_H} {r : Int32} {ph' : px_H} (h : f_M_fileError F a0 a1 a2 ph = some (r, ph')) : PW l g (d + 9) m_M_fileError 0 [.ref a0, .int a1, .int a2, px_u, px_u, px_u] [] ph (px_qI r ph') := by
  unfold f_M_fileError at h
  refine px_ld rfl rfl rfl rfl rfl ?_
  obtain ⟨t1, h0, h⟩ := xs_some h
  obtain ⟨fs, e1, e2⟩ := xgR_some h0
  refine px_get rfl e1 e2 rfl ?_
  refine px_ld rfl rfl rfl rfl rfl ?_
  refine px_ic (k := 0) rfl rfl rfl ?_
  obtain ⟨ph2, h0, h⟩ := xs_some h
  obtain ⟨N, f, e1, e2, e3⟩ := xsI_some h0
  subst e3
  refine px_iast rfl e1 rfl e2 rfl ?_
  refine px_ld rfl rfl rfl rfl rfl ?_
  obtain ⟨t3, h0, h⟩ := xs_some h
  obtain ⟨fs, e1, e2⟩ := xgR_some h0
  refine px_get rfl e1 e2 rfl ?_
  refine px_ld rfl rfl rfl rfl rfl ?_
  refine px_ld rfl rfl rfl rfl rfl ?_
  refine px_ic (k := 7) rfl rfl rfl ?_
  refine px_icle rfl (by decide) rfl (fun hc => ?_) (fun hc => ?_)
  · replace h := (if_pos hc).symm.trans h
    exact (r_M_fileError_40 h :)
  · replace h := (if_neg hc).symm.trans h
    refine px_ld rfl rfl rfl rfl rfl ?_
    refine px_ic (k := 8192) rfl rfl rfl ?_
    refine px_ld rfl rfl rfl rfl rfl ?_
    refine px_alu rfl rfl rfl ?_
    refine px_ic (k := 8) rfl rfl rfl ?_
    obtain ⟨fs, h0, h⟩ := xs_some h
    have e1 := xo_some h0
    obtain ⟨t4, ph5, h0, h⟩ := xb_some h
    refine px_cV2 rfl rfl e1 rfl rfl rfl rfl rfl rfl rfl (r_M_num h0 :) (fun _ _ q => nomatch q.2) (fun r ph' q => ?_)
    obtain ⟨rfl, q⟩ := q
    cases q
    refine px_ldc2 rfl rfl rfl ?_
    refine px_alu rfl rfl rfl ?_
    refine px_ifne rfl (by decide) rfl (fun hc => ?_) (fun hc => ?_)
    · replace h := (if_neg (fun q => hc ((lg_cmp_eq _ _).mpr q))).symm.trans h
      exact (r_M_fileError_40 h :)
    · replace h := (if_pos ((lg_cmp_eq _ _).mp hc)).symm.trans h
      refine px_ic (k := 1) rfl rfl rfl ?_
      refine px_goto rfl (by decide) rfl ?_
      exact (r_M_fileError_41 h :)
def f_M_add_63 (F : Nat) (a0 : Nat) (a1 : Int32) (ph : px_H) : Option (Int32 × px_H) :=
  (xpI ph 12 2 a0 (nI 0)).bind fun ph1 =>
  (xgI ph1 12 5 a0).bind fun t2 =>
  (xo ph1 12 a0).bind fun _ =>
  xb (f_M_fileError F a0 t2 a1 ph1) fun t3 ph4 =>
  if t3 ≤ 0 then
    (xgR ph4 12 7 a0).bind fun t5 =>
    (xgI ph4 12 5 a0).bind fun t6 =>
    (xsI ph4 1 t5 t6 a1).bind fun ph7 =>
    (xgR ph7 12 19 a0).bind fun t8 =>
    (xgI ph7 12 5 a0).bind fun t9 =>
    (xsI ph7 3 t8 t9 ((nI 0) &&& 1)).bind fun ph10 =>
    (xgI ph10 12 5 a0).bind fun t11 =>
    (xpI ph10 12 5 a0 (t11 + (nI 1))).bind fun ph12 =>
    some (nI 0, ph12)
  else
    some (t3, ph4)
theorem r_M_add_63 {l : Launch} {g : px_G} {d F : Nat} {a0 : Nat} {a1 : Int32} {ph : px_H} {r : Int32} {ph' : px_H} (h : f_M_add_63 F a0 a1 ph = some (r, ph')) : PW l g (d + 10) m_M_add 63 [.ref a0, .int a1, px_u] [] ph (px_qI r ph') := by
  unfold f_M_add_63 at h
  refine px_ld rfl rfl rfl rfl rfl ?_
  refine px_ic (k := 0) rfl rfl rfl ?_
  obtain ⟨ph1, h0, h⟩ := xs_some h
  obtain ⟨fs, e1, e2, e3⟩ := xpI_some h0
  subst e3
  refine px_put rfl e1 e2 trivial rfl ?_
  refine px_ld rfl rfl rfl rfl rfl ?_
  refine px_ld rfl rfl rfl rfl rfl ?_
  obtain ⟨t2, h0, h⟩ := xs_some h
  obtain ⟨fs, e1, e2⟩ := xgI_some h0
  refine px_get rfl e1 e2 rfl ?_
  refine px_ld rfl rfl rfl rfl rfl ?_
  obtain ⟨fs, h0, h⟩ := xs_some h
  have e1 := xo_some h0
  obtain ⟨t3, ph4, h0, h⟩ := xb_some h
  refine px_cV2 rfl rfl e1 rfl rfl rfl rfl rfl rfl rfl (r_M_fileError h0 :) (fun _ _ q => nomatch q.2) (fun r ph' q => ?_)
  obtain ⟨rfl, q⟩ := q
  cases q
  refine px_st (lv' := [_, _, _]) rfl rfl rfl rfl rfl rfl rfl ?_
  refine px_ld rfl rfl rfl rfl rfl ?_
  refine px_ifle rfl (by decide) rfl (fun hc => ?_) (fun hc => ?_)
  · replace h := (if_pos hc).symm.trans h
    refine px_ld rfl rfl rfl rfl rfl ?_
    obtain ⟨t5, h0, h⟩ := xs_some h
    obtain ⟨fs, e1, e2⟩ := xgR_some h0
    refine px_get rfl e1 e2 rfl ?_
    refine px_ld rfl rfl rfl rfl rfl ?_
    obtain ⟨t6, h0, h⟩ := xs_some h
    obtain ⟨fs, e1, e2⟩ := xgI_some h0
    refine px_get rfl e1 e2 rfl ?_
    refine px_ld rfl rfl rfl rfl rfl ?_
    obtain ⟨ph7, h0, h⟩ := xs_some h
    obtain ⟨N, f, e1, e2, e3⟩ := xsI_some h0
    subst e3
    refine px_iast rfl e1 rfl e2 rfl ?_
    refine px_ld rfl rfl rfl rfl rfl ?_
    obtain ⟨t8, h0, h⟩ := xs_some h
    obtain ⟨fs, e1, e2⟩ := xgR_some h0
    refine px_get rfl e1 e2 rfl ?_
    refine px_ld rfl rfl rfl rfl rfl ?_
    obtain ⟨t9, h0, h⟩ := xs_some h
    obtain ⟨fs, e1, e2⟩ := xgI_some h0
    refine px_get rfl e1 e2 rfl ?_
    refine px_ic (k := 0) rfl rfl rfl ?_
    obtain ⟨ph10, h0, h⟩ := xs_some h
    obtain ⟨N, f, e1, e2, e3⟩ := xsI_some h0
    subst e3
    refine px_zast rfl e1 rfl e2 rfl ?_
    refine px_ld rfl rfl rfl rfl rfl ?_
    refine px_alu rfl rfl rfl ?_
    obtain ⟨t11, h0, h⟩ := xs_some h
    obtain ⟨fs, e1, e2⟩ := xgI_some h0
    refine px_get rfl e1 e2 rfl ?_
    refine px_ic (k := 1) rfl rfl rfl ?_
    refine px_alu rfl rfl rfl ?_
    obtain ⟨ph12, h0, h⟩ := xs_some h
    obtain ⟨fs, e1, e2, e3⟩ := xpI_some h0
    subst e3
    refine px_put rfl e1 e2 trivial rfl ?_
    refine px_ic (k := 0) rfl rfl rfl ?_
    cases h
    exact px_iret rfl (Or.inl rfl) rfl ⟨rfl, rfl⟩
  · replace h := (if_neg hc).symm.trans h
    refine px_ld rfl rfl rfl rfl rfl ?_
    cases h
    exact px_iret rfl (Or.inl rfl) rfl ⟨rfl, rfl⟩
def f_M_add_31 (F : Nat) : Nat → Nat → Int32 → Int32 → px_H → Option (Int32 × px_H)
  | 0, _, _, _, _ => none
  | n + 1, a0, a1, a2, ph =>
    if a1 ≤ a2 then
      f_M_add_63 F a0 a1 ph
    else
      (xgR ph 12 6 a0).bind fun t1 =>
      (xgI ph 12 5 a0).bind fun t2 =>
      (xgR ph 12 1 a0).bind fun t3 =>
      (xaI ph 0 t3 a2).bind fun t4 =>
      (xsI ph 0 t1 (((nI 8192) * t2) + a2) (t4.toInt8.toInt32)).bind fun ph5 =>
      f_M_add_31 F n a0 a1 (a2 + nI 1) ph5
theorem r_M_add_31 {l : Launch} {g : px_G} {d F : Nat} : ∀ (n : Nat) {a0 : Nat} {a1 : Int32} {a2 : Int32} {ph : px_H} {r : Int32} {ph' : px_H}, f_M_add_31 F n a0 a1 a2 ph = some (r, ph') → PW l g (d + 10) m_M_add 31 [.ref a0, .int a1, .int a2] [] ph (px_qI r ph') := by
  intro n
  induction n with
  | zero => intro _ _ _ _ _ _ h; cases h
  | succ n ih =>
    intro a0 a1 a2 ph r ph' h
    unfold f_M_add_31 at h
    refine px_ld rfl rfl rfl rfl rfl ?_
    refine px_ld rfl rfl rfl rfl rfl ?_
    refine px_icge rfl (by decide) rfl (fun hc => ?_) (fun hc => ?_)
    · replace h := (if_pos hc).symm.trans h
      refine px_forget (n := 2) (lv' := [_, _, _]) rfl ?_
      exact (r_M_add_63 h :)
    · replace h := (if_neg hc).symm.trans h
      refine px_ld rfl rfl rfl rfl rfl ?_
      obtain ⟨t1, h0, h⟩ := xs_some h
      obtain ⟨fs, e1, e2⟩ := xgR_some h0
      refine px_get rfl e1 e2 rfl ?_
      refine px_ic (k := 8192) rfl rfl rfl ?_
      refine px_ld rfl rfl rfl rfl rfl ?_
      obtain ⟨t2, h0, h⟩ := xs_some h
      obtain ⟨fs, e1, e2⟩ := xgI_some h0
      refine px_get rfl e1 e2 rfl ?_
      refine px_alu rfl rfl rfl ?_
      refine px_ld rfl rfl rfl rfl rfl ?_
      refine px_alu rfl rfl rfl ?_
      refine px_ld rfl rfl rfl rfl rfl ?_
      obtain ⟨t3, h0, h⟩ := xs_some h
      obtain ⟨fs, e1, e2⟩ := xgR_some h0
      refine px_get rfl e1 e2 rfl ?_
      refine px_ld rfl rfl rfl rfl rfl ?_
      obtain ⟨t4, h0, h⟩ := xs_some h
      obtain ⟨N, f, e1, e2, e3⟩ := xaI_some h0
      subst e3
      refine px_bald rfl e1 rfl e2 rfl ?_
      obtain ⟨ph5, h0, h⟩ := xs_some h
      obtain ⟨N, f, e1, e2, e3⟩ := xsI_some h0
      subst e3
      refine px_bast rfl e1 rfl e2 rfl ?_
      refine px_iinc (lv' := [_, _, _]) rfl rfl rfl rfl rfl rfl ?_
      refine px_goto rfl (by decide) rfl ?_
      exact (ih h :)
def f_M_add_15 (F : Nat) (a0 : Nat) (s0 : Nat) (s1 : Int32) (ph : px_H) : Option (Int32 × px_H) :=
  (xo ph 12 s0).bind fun _ =>
  xb (f_M_throwing F s0 s1 (nI 0) ph) fun t1 ph2 =>
  if t1 = 0 then
    (xgI ph2 12 2 a0).bind fun t3 =>
    f_M_add_31 F F a0 t3 (nI 0) ph2
  else
    some (nI 0, ph2)
theorem r_M_add_15 {l : Launch} {g : px_G} {d F : Nat} {a0 : Nat} {s0 : Nat} {s1 : Int32} {ph : px_H} {r : Int32} {ph' : px_H} (h : f_M_add_15 F a0 s0 s1 ph = some (r, ph')) : PW l g (d + 10) m_M_add 15 [.ref a0, px_u, px_u] [.int s1, .ref s0] ph (px_qI r ph') := by
  unfold f_M_add_15 at h
  refine px_ic (k := 0) rfl rfl rfl ?_
  obtain ⟨fs, h0, h⟩ := xs_some h
  have e1 := xo_some h0
  obtain ⟨t1, ph2, h0, h⟩ := xb_some h
  refine px_cV2 rfl rfl e1 rfl rfl rfl rfl rfl rfl rfl (r_M_throwing h0 :) (fun _ _ q => nomatch q.2) (fun r ph' q => ?_)
  obtain ⟨rfl, q⟩ := q
  cases q
  refine px_ifeq rfl (by decide) rfl (fun hc => ?_) (fun hc => ?_)
  · replace h := (if_pos hc).symm.trans h
    refine px_ld rfl rfl rfl rfl rfl ?_
    obtain ⟨t3, h0, h⟩ := xs_some h
    obtain ⟨fs, e1, e2⟩ := xgI_some h0
    refine px_get rfl e1 e2 rfl ?_
    refine px_st (lv' := [_, _, _]) rfl rfl rfl rfl rfl rfl rfl ?_
    refine px_ic (k := 0) rfl rfl rfl ?_
    refine px_st (lv' := [_, _, _]) rfl rfl rfl rfl rfl rfl rfl ?_
    exact (r_M_add_31 _ h :)
  · replace h := (if_neg hc).symm.trans h
    refine px_ic (k := 0) rfl rfl rfl ?_
    cases h
    exact px_iret rfl (Or.inl rfl) rfl ⟨rfl, rfl⟩
def f_M_add (F : Nat) (a0 : Nat) (ph : px_H) : Option (Int32 × px_H) :=
  (xgI ph 12 5 a0).bind fun t1 =>
  if t1 = (nI 8) then
    f_M_add_15 F a0 a0 (nI 1) ph
  else
    f_M_add_15 F a0 a0 (nI 0) ph
theorem r_M_add {l : Launch} {g : px_G} {d F : Nat} {a0 : Nat} {ph : px_H} {r : Int32} {ph' : px_H} (h : f_M_add F a0 ph = some (r, ph')) : PW l g (d + 10) m_M_add 0 [.ref a0, px_u, px_u] [] ph (px_qI r ph') := by
  unfold f_M_add at h
  refine px_ld rfl rfl rfl rfl rfl ?_
  refine px_ld rfl rfl rfl rfl rfl ?_
  obtain ⟨t1, h0, h⟩ := xs_some h
  obtain ⟨fs, e1, e2⟩ := xgI_some h0
  refine px_get rfl e1 e2 rfl ?_
  refine px_ic (k := 8) rfl rfl rfl ?_
  refine px_icne rfl (by decide) rfl (fun hc => ?_) (fun hc => ?_)
  · replace h := (if_neg hc).symm.trans h
    refine px_ic (k := 0) rfl rfl rfl ?_
    exact (r_M_add_15 h :)
  · replace h := (if_pos hc).symm.trans h
    refine px_ic (k := 1) rfl rfl rfl ?_
    refine px_goto rfl (by decide) rfl ?_
    exact (r_M_add_15 h :)
def f_M_drop_13 (F : Nat) (a0 : Nat) (s0 : Nat) (s1 : Int32) (ph : px_H) : Option (Int32 × px_H) :=
  (xo ph 12 s0).bind fun _ =>
  xb (f_M_throwing F s0 s1 (nI 0) ph) fun t1 ph2 =>
  if t1 = 0 then
    (xgI ph2 12 5 a0).bind fun t3 =>
    (xpI ph2 12 5 a0 (t3 - (nI 1))).bind fun ph4 =>
    (xgI ph4 12 5 a0).bind fun t5 =>
    some (t5, ph4)
  else
    some (nI 0, ph2)
theorem r_M_drop_13 {l : Launch} {g : px_G} {d F : Nat} {a0 : Nat} {s0 : Nat} {s1 : Int32} {ph : px_H} {r : Int32} {ph' : px_H} (h : f_M_drop_13 F a0 s0 s1 ph = some (r, ph')) : PW l g (d + 1) m_M_drop 13 [.ref a0] [.int s1, .ref s0] ph (px_qI r ph') := by
  unfold f_M_drop_13 at h
  refine px_ic (k := 0) rfl rfl rfl ?_
  obtain ⟨fs, h0, h⟩ := xs_some h
  have e1 := xo_some h0
  obtain ⟨t1, ph2, h0, h⟩ := xb_some h
  refine px_cV2 rfl rfl e1 rfl rfl rfl rfl rfl rfl rfl (r_M_throwing h0 :) (fun _ _ q => nomatch q.2) (fun r ph' q => ?_)
  obtain ⟨rfl, q⟩ := q
  cases q
  refine px_ifeq rfl rfl rfl (fun hc => ?_) (fun hc => ?_)
  · replace h := (if_pos hc).symm.trans h
    refine px_ld rfl rfl rfl rfl rfl ?_
    refine px_alu rfl rfl rfl ?_
    obtain ⟨t3, h0, h⟩ := xs_some h
    obtain ⟨fs, e1, e2⟩ := xgI_some h0
    refine px_get rfl e1 e2 rfl ?_
    refine px_ic (k := 1) rfl rfl rfl ?_
    refine px_alu rfl rfl rfl ?_
    obtain ⟨ph4, h0, h⟩ := xs_some h
    obtain ⟨fs, e1, e2, e3⟩ := xpI_some h0
    subst e3
    refine px_put rfl e1 e2 trivial rfl ?_
    refine px_ld rfl rfl rfl rfl rfl ?_
    obtain ⟨t5, h0, h⟩ := xs_some h
    obtain ⟨fs, e1, e2⟩ := xgI_some h0
    refine px_get rfl e1 e2 rfl ?_
    cases h
    exact px_iret rfl (Or.inl rfl) rfl ⟨rfl, rfl⟩
  · replace h := (if_neg hc).symm.trans h
    refine px_ic (k := 0) rfl rfl rfl ?_
    cases h
    exact px_iret rfl (Or.inl rfl) rfl ⟨rfl, rfl⟩
def f_M_drop (F : Nat) (a0 : Nat) (ph : px_H) : Option (Int32 × px_H) :=
  (xgI ph 12 5 a0).bind fun t1 =>
  if t1 = 0 then
    f_M_drop_13 F a0 a0 (nI 1) ph
  else
    f_M_drop_13 F a0 a0 (nI 0) ph
theorem r_M_drop {l : Launch} {g : px_G} {d F : Nat} {a0 : Nat} {ph : px_H} {r : Int32} {ph' : px_H} (h : f_M_drop F a0 ph = some (r, ph')) : PW l g (d + 1) m_M_drop 0 [.ref a0] [] ph (px_qI r ph') := by
  unfold f_M_drop at h
  refine px_ld rfl rfl rfl rfl rfl ?_
  refine px_ld rfl rfl rfl rfl rfl ?_
  obtain ⟨t1, h0, h⟩ := xs_some h
  obtain ⟨fs, e1, e2⟩ := xgI_some h0
  refine px_get rfl e1 e2 rfl ?_
  refine px_ifne rfl rfl rfl (fun hc => ?_) (fun hc => ?_)
  · replace h := (if_neg hc).symm.trans h
    refine px_ic (k := 0) rfl rfl rfl ?_
    exact (r_M_drop_13 h :)
  · replace h := (if_pos hc).symm.trans h
    refine px_ic (k := 1) rfl rfl rfl ?_
    refine px_goto rfl rfl rfl ?_
    exact (r_M_drop_13 h :)
def f_M_isTapeName_57 (F : Nat) (a1 : Int32) (ph : px_H) : Option (Int32 × px_H) :=
  xz a1 ph
theorem r_M_isTapeName_57 {l : Launch} {g : px_G} {d F : Nat} {a1 : Int32} {ph : px_H} {r : Int32} {ph' : px_H} (h : f_M_isTapeName_57 F a1 ph = some (r, ph')) : PW l g (d + 0) m_M_isTapeName 57 [px_u, .int a1, px_u] [] ph (px_qI r ph') := by
  unfold f_M_isTapeName_57 at h
  refine px_ld rfl rfl rfl rfl rfl ?_
  obtain ⟨e0, e1, e2⟩ := xz_some h
  subst e1 e2
  exact px_iret rfl (Or.inr ⟨rfl, e0⟩) rfl ⟨rfl, rfl⟩
def f_M_isTapeName_50 (F : Nat) (k24 : Nat → Int32 → Int32 → px_H → Option (Int32 × px_H)) (a0 : Nat) (a2 : Int32) (s0 : Int32) (ph : px_H) : Option (Int32 × px_H) :=
  k24 a0 s0 (a2 + nI 1) ph
theorem r_M_isTapeName_50 {l : Launch} {g : px_G} {d F : Nat} {k24 : Nat → Int32 → Int32 → px_H → Option (Int32 × px_H)} (hk24 : ∀ {a0 : Nat} {a1 : Int32} {a2 : Int32} {ph : px_H} {r : Int32} {ph' : px_H}, k24 a0 a1 a2 ph = some (r, ph') → PW l g (d + 0) m_M_isTapeName 24 [.ref a0, .int a1, .int a2] [] ph (px_qI r ph')) {a0 : Nat} {a2 : Int32} {s0 : Int32} {ph : px_H} {r : Int32} {ph' : px_H} (h : f_M_isTapeName_50 F k24 a0 a2 s0 ph = some (r, ph')) : PW l g (d + 0) m_M_isTapeName 50 [.ref a0, px_u, .int a2] [.int s0] ph (px_qI r ph') := by
  unfold f_M_isTapeName_50 at h
  refine px_st (lv' := [_, _, _]) rfl rfl rfl rfl rfl rfl rfl ?_
  refine px_iinc (lv' := [_, _, _]) rfl rfl rfl rfl rfl rfl ?_
  refine px_goto rfl rfl rfl ?_
  exact (hk24 h :)
def f_M_isTapeName_24 (F : Nat) : Nat → Nat → Int32 → Int32 → px_H → Option (Int32 × px_H)
  | 0, _, _, _, _ => none
  | n + 1, a0, a1, a2, ph =>
    (xgI ph 12 2 a0).bind fun t1 =>
    if t1 ≤ a2 then
      f_M_isTapeName_57 F a1 ph
    else
      if a1 = 0 then
        f_M_isTapeName_57 F a1 ph
      else
        (xgR ph 12 1 a0).bind fun t2 =>
        (xaI ph 0 t2 a2).bind fun t3 =>
        if t3 = 0 then
          f_M_isTapeName_50 F (f_M_isTapeName_24 F n) a0 a2 (nI 0) ph
        else
          f_M_isTapeName_50 F (f_M_isTapeName_24 F n) a0 a2 (nI 1) ph
theorem r_M_isTapeName_24 {l : Launch} {g : px_G} {d F : Nat} : ∀ (n : Nat) {a0 : Nat} {a1 : Int32} {a2 : Int32} {ph : px_H} {r : Int32} {ph' : px_H}, f_M_isTapeName_24 F n a0 a1 a2 ph = some (r, ph') → PW l g (d + 0) m_M_isTapeName 24 [.ref a0, .int a1, .int a2] [] ph (px_qI r ph') := by
  intro n
  induction n with
  | zero => intro _ _ _ _ _ _ h; cases h
  | succ n ih =>
    intro a0 a1 a2 ph r ph' h
    unfold f_M_isTapeName_24 at h
    refine px_ld rfl rfl rfl rfl rfl ?_
    refine px_ld rfl rfl rfl rfl rfl ?_
    obtain ⟨t1, h0, h⟩ := xs_some h
    obtain ⟨fs, e1, e2⟩ := xgI_some h0
    refine px_get rfl e1 e2 rfl ?_
    refine px_icge rfl rfl rfl (fun hc => ?_) (fun hc => ?_)
    · replace h := (if_pos hc).symm.trans h
      refine px_forget (n := 0) (lv' := [_, _, _]) rfl ?_
      refine px_forget (n := 2) (lv' := [_, _, _]) rfl ?_
      exact (r_M_isTapeName_57 h :)
    · replace h := (if_neg hc).symm.trans h
      refine px_ld rfl rfl rfl rfl rfl ?_
      refine px_ifeq rfl rfl rfl (fun hc => ?_) (fun hc => ?_)
      · replace h := (if_pos hc).symm.trans h
        refine px_forget (n := 0) (lv' := [_, _, _]) rfl ?_
        refine px_forget (n := 2) (lv' := [_, _, _]) rfl ?_
        exact (r_M_isTapeName_57 h :)
      · replace h := (if_neg hc).symm.trans h
        refine px_ld rfl rfl rfl rfl rfl ?_
        obtain ⟨t2, h0, h⟩ := xs_some h
        obtain ⟨fs, e1, e2⟩ := xgR_some h0
        refine px_get rfl e1 e2 rfl ?_
        refine px_ld rfl rfl rfl rfl rfl ?_
        obtain ⟨t3, h0, h⟩ := xs_some h
        obtain ⟨N, f, e1, e2, e3⟩ := xaI_some h0
        subst e3
        refine px_bald rfl e1 rfl e2 rfl ?_
        refine px_ifeq rfl rfl rfl (fun hc => ?_) (fun hc => ?_)
        · replace h := (if_pos hc).symm.trans h
          refine px_ic (k := 0) rfl rfl rfl ?_
          refine px_forget (n := 1) (lv' := [_, _, _]) rfl ?_
          exact (r_M_isTapeName_50 @ih h :)
        · replace h := (if_neg hc).symm.trans h
          refine px_ic (k := 1) rfl rfl rfl ?_
          refine px_goto rfl rfl rfl ?_
          refine px_forget (n := 1) (lv' := [_, _, _]) rfl ?_
          exact (r_M_isTapeName_50 @ih h :)
def f_M_isTapeName_21 (F : Nat) (a0 : Nat) (s0 : Int32) (ph : px_H) : Option (Int32 × px_H) :=
  f_M_isTapeName_24 F F a0 s0 (nI 0) ph
theorem r_M_isTapeName_21 {l : Launch} {g : px_G} {d F : Nat} {a0 : Nat} {s0 : Int32} {ph : px_H} {r : Int32} {ph' : px_H} (h : f_M_isTapeName_21 F a0 s0 ph = some (r, ph')) : PW l g (d + 0) m_M_isTapeName 21 [.ref a0, px_u, px_u] [.int s0] ph (px_qI r ph') := by
  unfold f_M_isTapeName_21 at h
  refine px_st (lv' := [_, _, _]) rfl rfl rfl rfl rfl rfl rfl ?_
  refine px_ic (k := 0) rfl rfl rfl ?_
  refine px_st (lv' := [_, _, _]) rfl rfl rfl rfl rfl rfl rfl ?_
  exact (r_M_isTapeName_24 _ h :)
def f_M_isTapeName_20 (F : Nat) (a0 : Nat) (ph : px_H) : Option (Int32 × px_H) :=
  f_M_isTapeName_21 F a0 (nI 0) ph
theorem r_M_isTapeName_20 {l : Launch} {g : px_G} {d F : Nat} {a0 : Nat} {ph : px_H} {r : Int32} {ph' : px_H} (h : f_M_isTapeName_20 F a0 ph = some (r, ph')) : PW l g (d + 0) m_M_isTapeName 20 [.ref a0, px_u, px_u] [] ph (px_qI r ph') := by
  unfold f_M_isTapeName_20 at h
  refine px_ic (k := 0) rfl rfl rfl ?_
  exact (r_M_isTapeName_21 h :)
def f_M_isTapeName (F : Nat) (a0 : Nat) (ph : px_H) : Option (Int32 × px_H) :=
  (xgI ph 12 2 a0).bind fun t1 =>
  if t1 ≤ 0 then
    f_M_isTapeName_20 F a0 ph
  else
    (xgI ph 12 2 a0).bind fun t2 =>
    if (nI 20) < t2 then
      f_M_isTapeName_20 F a0 ph
    else
      f_M_isTapeName_21 F a0 (nI 1) ph
theorem r_M_isTapeName {l : Launch} {g : px_G} {d F : Nat} {a0 : Nat} {ph : px_H} {r : Int32} {ph' : px_H} (h : f_M_isTapeName F a0 ph = some (r, ph')) : PW l g (d + 0) m_M_isTapeName 0 [.ref a0, px_u, px_u] [] ph (px_qI r ph') := by
  unfold f_M_isTapeName at h
  refine px_ld rfl rfl rfl rfl rfl ?_
  obtain ⟨t1, h0, h⟩ := xs_some h
  obtain ⟨fs, e1, e2⟩ := xgI_some h0
  refine px_get rfl e1 e2 rfl ?_
  refine px_ifle rfl rfl rfl (fun hc => ?_) (fun hc => ?_)
  · replace h := (if_pos hc).symm.trans h
    exact (r_M_isTapeName_20 h :)
  · replace h := (if_neg hc).symm.trans h
    refine px_ld rfl rfl rfl rfl rfl ?_
    obtain ⟨t2, h0, h⟩ := xs_some h
    obtain ⟨fs, e1, e2⟩ := xgI_some h0
    refine px_get rfl e1 e2 rfl ?_
    refine px_ic (k := 20) rfl rfl rfl ?_
    refine px_icgt rfl rfl rfl (fun hc => ?_) (fun hc => ?_)
    · replace h := (if_pos hc).symm.trans h
      exact (r_M_isTapeName_20 h :)
    · replace h := (if_neg hc).symm.trans h
      refine px_ic (k := 1) rfl rfl rfl ?_
      refine px_goto rfl rfl rfl ?_
      exact (r_M_isTapeName_21 h :)
def f_M_toldAt_91 (F : Nat) (ph : px_H) : Option (Int32 × px_H) :=
  some (Int32.ofInt (-1), ph)
theorem r_M_toldAt_91 {l : Launch} {g : px_G} {d F : Nat} {ph : px_H} {r : Int32} {ph' : px_H} (h : f_M_toldAt_91 F ph = some (r, ph')) : PW l g (d + 0) m_M_toldAt 91 [px_u, px_u, px_u, px_u, px_u, px_u, px_u] [] ph (px_qI r ph') := by
  unfold f_M_toldAt_91 at h
  refine px_alu rfl rfl rfl ?_
  cases h
  exact px_iret rfl (Or.inl rfl) rfl ⟨rfl, rfl⟩
def f_M_toldAt_82 (F : Nat) (a4 : Int32) (ph : px_H) : Option (Int32 × px_H) :=
  some (a4, ph)
theorem r_M_toldAt_82 {l : Launch} {g : px_G} {d F : Nat} {a4 : Int32} {ph : px_H} {r : Int32} {ph' : px_H} (h : f_M_toldAt_82 F a4 ph = some (r, ph')) : PW l g (d + 0) m_M_toldAt 82 [px_u, px_u, px_u, px_u, .int a4, px_u, px_u] [] ph (px_qI r ph') := by
  unfold f_M_toldAt_82 at h
  refine px_ld rfl rfl rfl rfl rfl ?_
  cases h
  exact px_iret rfl (Or.inl rfl) rfl ⟨rfl, rfl⟩
def f_M_toldAt_77 (F : Nat) (k3 : Nat → Nat → Nat → Int32 → Int32 → px_H → Option (Int32 × px_H)) (a0 : Nat) (a1 : Nat) (a2 : Nat) (a3 : Int32) (a4 : Int32) (a5 : Int32) (ph : px_H) : Option (Int32 × px_H) :=
  if a5 = 0 then
    k3 a0 a1 a2 a3 (a4 + nI 1) ph
  else
    f_M_toldAt_82 F a4 ph
theorem r_M_toldAt_77 {l : Launch} {g : px_G} {d F : Nat} {k3 : Nat → Nat → Nat → Int32 → Int32 → px_H → Option (Int32 × px_H)} (hk3 : ∀ {a0 : Nat} {a1 : Nat} {a2 : Nat} {a3 : Int32} {a4 : Int32} {ph : px_H} {r : Int32} {ph' : px_H}, k3 a0 a1 a2 a3 a4 ph = some (r, ph') → PW l g (d + 0) m_M_toldAt 3 [.ref a0, .ref a1, .ref a2, .int a3, .int a4, px_u, px_u] [] ph (px_qI r ph')) {a0 : Nat} {a1 : Nat} {a2 : Nat} {a3 : Int32} {a4 : Int32} {a5 : Int32} {ph : px_H} {r : Int32} {ph' : px_H} (h : f_M_toldAt_77 F k3 a0 a1 a2 a3 a4 a5 ph = some (r, ph')) : PW l g (d + 0) m_M_toldAt 77 [.ref a0, .ref a1, .ref a2, .int a3, .int a4, .int a5, px_u] [] ph (px_qI r ph') := by
  unfold f_M_toldAt_77 at h
  refine px_ld rfl rfl rfl rfl rfl ?_
  refine px_ifeq rfl rfl rfl (fun hc => ?_) (fun hc => ?_)
  · replace h := (if_pos hc).symm.trans h
    refine px_iinc (lv' := [_, _, _, _, _, _, _]) rfl rfl rfl rfl rfl rfl ?_
    refine px_goto rfl rfl rfl ?_
    refine px_forget (n := 5) (lv' := [_, _, _, _, _, _, _]) rfl ?_
    exact (hk3 h :)
  · replace h := (if_neg hc).symm.trans h
    refine px_forget (n := 0) (lv' := [_, _, _, _, _, _, _]) rfl ?_
    refine px_forget (n := 1) (lv' := [_, _, _, _, _, _, _]) rfl ?_
    refine px_forget (n := 2) (lv' := [_, _, _, _, _, _, _]) rfl ?_
    refine px_forget (n := 3) (lv' := [_, _, _, _, _, _, _]) rfl ?_
    refine px_forget (n := 5) (lv' := [_, _, _, _, _, _, _]) rfl ?_
    exact (r_M_toldAt_82 h :)
def f_M_toldAt_69 (F : Nat) (k3 : Nat → Nat → Nat → Int32 → Int32 → px_H → Option (Int32 × px_H)) (k30 : Nat → Nat → Nat → Int32 → Int32 → Int32 → Int32 → px_H → Option (Int32 × px_H)) (a0 : Nat) (a1 : Nat) (a2 : Nat) (a3 : Int32) (a4 : Int32) (a6 : Int32) (s0 : Int32) (ph : px_H) : Option (Int32 × px_H) :=
  k30 a0 a1 a2 a3 a4 s0 (a6 + nI 1) ph
theorem r_M_toldAt_69 {l : Launch} {g : px_G} {d F : Nat} {k3 : Nat → Nat → Nat → Int32 → Int32 → px_H → Option (Int32 × px_H)} (hk3 : ∀ {a0 : Nat} {a1 : Nat} {a2 : Nat} {a3 : Int32} {a4 : Int32} {ph : px_H} {r : Int32} {ph' : px_H}, k3 a0 a1 a2 a3 a4 ph = some (r, ph') → PW l g (d + 0) m_M_toldAt 3 [.ref a0, .ref a1, .ref a2, .int a3, .int a4, px_u, px_u] [] ph (px_qI r ph')) {k30 : Nat → Nat → Nat → Int32 → Int32 → Int32 → Int32 → px_H → Option (Int32 × px_H)} (hk30 : ∀ {a0 : Nat} {a1 : Nat} {a2 : Nat} {a3 : Int32} {a4 : Int32} {a5 : Int32} {a6 : Int32} {ph : px_H} {r : Int32} {ph' : px_H}, k30 a0 a1 a2 a3 a4 a5 a6 ph = some (r, ph') → PW l g (d + 0) m_M_toldAt 30 [.ref a0, .ref a1, .ref a2, .int a3, .int a4, .int a5, .int a6] [] ph (px_qI r ph')) {a0 : Nat} {a1 : Nat} {a2 : Nat} {a3 : Int32} {a4 : Int32} {a6 : Int32} {s0 : Int32} {ph : px_H} {r : Int32} {ph' : px_H} (h : f_M_toldAt_69 F k3 k30 a0 a1 a2 a3 a4 a6 s0 ph = some (r, ph')) : PW l g (d + 0) m_M_toldAt 69 [.ref a0, .ref a1, .ref a2, .int a3, .int a4, px_u, .int a6] [.int s0] ph (px_qI r ph') := by
  unfold f_M_toldAt_69 at h
  refine px_st (lv' := [_, _, _, _, _, _, _]) rfl rfl rfl rfl rfl rfl rfl ?_
  refine px_iinc (lv' := [_, _, _, _, _, _, _]) rfl rfl rfl rfl rfl rfl ?_
  refine px_goto rfl rfl rfl ?_
  exact (hk30 h :)
def f_M_toldAt_30 (F : Nat) (k3 : Nat → Nat → Nat → Int32 → Int32 → px_H → Option (Int32 × px_H)) : Nat → Nat → Nat → Nat → Int32 → Int32 → Int32 → Int32 → px_H → Option (Int32 × px_H)
  | 0, _, _, _, _, _, _, _, _ => none
  | n + 1, a0, a1, a2, a3, a4, a5, a6, ph =>
    (xgI ph 12 2 a0).bind fun t1 =>
    if t1 ≤ a6 then
      f_M_toldAt_77 F k3 a0 a1 a2 a3 a4 a5 ph
    else
      if a5 = 0 then
        f_M_toldAt_77 F k3 a0 a1 a2 a3 a4 a5 ph
      else
        (xaI ph 0 a1 (((nI 20) * a4) + a6)).bind fun t2 =>
        (xgR ph 12 1 a0).bind fun t3 =>
        (xaI ph 0 t3 a6).bind fun t4 =>
        if t2 = t4 then
          f_M_toldAt_69 F k3 (f_M_toldAt_30 F k3 n) a0 a1 a2 a3 a4 a6 (nI 1) ph
        else
          f_M_toldAt_69 F k3 (f_M_toldAt_30 F k3 n) a0 a1 a2 a3 a4 a6 (nI 0) ph
theorem r_M_toldAt_30 {l : Launch} {g : px_G} {d F : Nat} {k3 : Nat → Nat → Nat → Int32 → Int32 → px_H → Option (Int32 × px_H)} (hk3 : ∀ {a0 : Nat} {a1 : Nat} {a2 : Nat} {a3 : Int32} {a4 : Int32} {ph : px_H} {r : Int32} {ph' : px_H}, k3 a0 a1 a2 a3 a4 ph = some (r, ph') → PW l g (d + 0) m_M_toldAt 3 [.ref a0, .ref a1, .ref a2, .int a3, .int a4, px_u, px_u] [] ph (px_qI r ph')) : ∀ (n : Nat) {a0 : Nat} {a1 : Nat} {a2 : Nat} {a3 : Int32} {a4 : Int32} {a5 : Int32} {a6 : Int32} {ph : px_H} {r : Int32} {ph' : px_H}, f_M_toldAt_30 F k3 n a0 a1 a2 a3 a4 a5 a6 ph = some (r, ph') → PW l g (d + 0) m_M_toldAt 30 [.ref a0, .ref a1, .ref a2, .int a3, .int a4, .int a5, .int a6] [] ph (px_qI r ph') := by
  intro n
  induction n with
  | zero => intro _ _ _ _ _ _ _ _ _ _ h; cases h
  | succ n ih =>
    intro a0 a1 a2 a3 a4 a5 a6 ph r ph' h
    unfold f_M_toldAt_30 at h
    refine px_ld rfl rfl rfl rfl rfl ?_
    refine px_ld rfl rfl rfl rfl rfl ?_
    obtain ⟨t1, h0, h⟩ := xs_some h
    obtain ⟨fs, e1, e2⟩ := xgI_some h0
    refine px_get rfl e1 e2 rfl ?_
    refine px_icge rfl rfl rfl (fun hc => ?_) (fun hc => ?_)
    · replace h := (if_pos hc).symm.trans h
      refine px_forget (n := 6) (lv' := [_, _, _, _, _, _, _]) rfl ?_
      exact (r_M_toldAt_77 @hk3 h :)
    · replace h := (if_neg hc).symm.trans h
      refine px_ld rfl rfl rfl rfl rfl ?_
      refine px_ifeq rfl rfl rfl (fun hc => ?_) (fun hc => ?_)
      · replace h := (if_pos hc).symm.trans h
        refine px_forget (n := 6) (lv' := [_, _, _, _, _, _, _]) rfl ?_
        exact (r_M_toldAt_77 @hk3 h :)
      · replace h := (if_neg hc).symm.trans h
        refine px_ld rfl rfl rfl rfl rfl ?_
        refine px_ic (k := 20) rfl rfl rfl ?_
        refine px_ld rfl rfl rfl rfl rfl ?_
        refine px_alu rfl rfl rfl ?_
        refine px_ld rfl rfl rfl rfl rfl ?_
        refine px_alu rfl rfl rfl ?_
        obtain ⟨t2, h0, h⟩ := xs_some h
        obtain ⟨N, f, e1, e2, e3⟩ := xaI_some h0
        subst e3
        refine px_bald rfl e1 rfl e2 rfl ?_
        refine px_ld rfl rfl rfl rfl rfl ?_
        obtain ⟨t3, h0, h⟩ := xs_some h
        obtain ⟨fs, e1, e2⟩ := xgR_some h0
        refine px_get rfl e1 e2 rfl ?_
        refine px_ld rfl rfl rfl rfl rfl ?_
        obtain ⟨t4, h0, h⟩ := xs_some h
        obtain ⟨N, f, e1, e2, e3⟩ := xaI_some h0
        subst e3
        refine px_bald rfl e1 rfl e2 rfl ?_
        refine px_icne rfl rfl rfl (fun hc => ?_) (fun hc => ?_)
        · replace h := (if_neg hc).symm.trans h
          refine px_ic (k := 0) rfl rfl rfl ?_
          refine px_forget (n := 5) (lv' := [_, _, _, _, _, _, _]) rfl ?_
          exact (r_M_toldAt_69 @hk3 @ih h :)
        · replace h := (if_pos hc).symm.trans h
          refine px_ic (k := 1) rfl rfl rfl ?_
          refine px_goto rfl rfl rfl ?_
          refine px_forget (n := 5) (lv' := [_, _, _, _, _, _, _]) rfl ?_
          exact (r_M_toldAt_69 @hk3 @ih h :)
def f_M_toldAt_25 (F : Nat) (k3 : Nat → Nat → Nat → Int32 → Int32 → px_H → Option (Int32 × px_H)) (a0 : Nat) (a1 : Nat) (a2 : Nat) (a3 : Int32) (a4 : Int32) (s0 : Int32) (ph : px_H) : Option (Int32 × px_H) :=
  f_M_toldAt_30 F k3 F a0 a1 a2 a3 a4 s0 (nI 0) ph
theorem r_M_toldAt_25 {l : Launch} {g : px_G} {d F : Nat} {k3 : Nat → Nat → Nat → Int32 → Int32 → px_H → Option (Int32 × px_H)} (hk3 : ∀ {a0 : Nat} {a1 : Nat} {a2 : Nat} {a3 : Int32} {a4 : Int32} {ph : px_H} {r : Int32} {ph' : px_H}, k3 a0 a1 a2 a3 a4 ph = some (r, ph') → PW l g (d + 0) m_M_toldAt 3 [.ref a0, .ref a1, .ref a2, .int a3, .int a4, px_u, px_u] [] ph (px_qI r ph')) {a0 : Nat} {a1 : Nat} {a2 : Nat} {a3 : Int32} {a4 : Int32} {s0 : Int32} {ph : px_H} {r : Int32} {ph' : px_H} (h : f_M_toldAt_25 F k3 a0 a1 a2 a3 a4 s0 ph = some (r, ph')) : PW l g (d + 0) m_M_toldAt 25 [.ref a0, .ref a1, .ref a2, .int a3, .int a4, px_u, px_u] [.int s0] ph (px_qI r ph') := by
  unfold f_M_toldAt_25 at h
  refine px_st (lv' := [_, _, _, _, _, _, _]) rfl rfl rfl rfl rfl rfl rfl ?_
  refine px_ic (k := 0) rfl rfl rfl ?_
  refine px_st (lv' := [_, _, _, _, _, _, _]) rfl rfl rfl rfl rfl rfl rfl ?_
  exact (r_M_toldAt_30 @hk3 _ h :)
def f_M_toldAt_3 (F : Nat) : Nat → Nat → Nat → Nat → Int32 → Int32 → px_H → Option (Int32 × px_H)
  | 0, _, _, _, _, _, _ => none
  | n + 1, a0, a1, a2, a3, a4, ph =>
    if a3 ≤ a4 then
      f_M_toldAt_91 F ph
    else
      (xaI ph 1 a2 a4).bind fun t1 =>
      (xgI ph 12 2 a0).bind fun t2 =>
      if t1 = t2 then
        f_M_toldAt_25 F (f_M_toldAt_3 F n) a0 a1 a2 a3 a4 (nI 1) ph
      else
        f_M_toldAt_25 F (f_M_toldAt_3 F n) a0 a1 a2 a3 a4 (nI 0) ph
theorem r_M_toldAt_3 {l : Launch} {g : px_G} {d F : Nat} : ∀ (n : Nat) {a0 : Nat} {a1 : Nat} {a2 : Nat} {a3 : Int32} {a4 : Int32} {ph : px_H} {r : Int32} {ph' : px_H}, f_M_toldAt_3 F n a0 a1 a2 a3 a4 ph = some (r, ph') → PW l g (d + 0) m_M_toldAt 3 [.ref a0, .ref a1, .ref a2, .int a3, .int a4, px_u, px_u] [] ph (px_qI r ph') := by
  intro n
  induction n with
  | zero => intro _ _ _ _ _ _ _ _ h; cases h
  | succ n ih =>
    intro a0 a1 a2 a3 a4 ph r ph' h
    unfold f_M_toldAt_3 at h
    refine px_ld rfl rfl rfl rfl rfl ?_
    refine px_ld rfl rfl rfl rfl rfl ?_
    refine px_icge rfl rfl rfl (fun hc => ?_) (fun hc => ?_)
    · replace h := (if_pos hc).symm.trans h
      refine px_forget (n := 0) (lv' := [_, _, _, _, _, _, _]) rfl ?_
      refine px_forget (n := 1) (lv' := [_, _, _, _, _, _, _]) rfl ?_
      refine px_forget (n := 2) (lv' := [_, _, _, _, _, _, _]) rfl ?_
      refine px_forget (n := 3) (lv' := [_, _, _, _, _, _, _]) rfl ?_
      refine px_forget (n := 4) (lv' := [_, _, _, _, _, _, _]) rfl ?_
      exact (r_M_toldAt_91 h :)
    · replace h := (if_neg hc).symm.trans h
      refine px_ld rfl rfl rfl rfl rfl ?_
      refine px_ld rfl rfl rfl rfl rfl ?_
      obtain ⟨t1, h0, h⟩ := xs_some h
      obtain ⟨N, f, e1, e2, e3⟩ := xaI_some h0
      subst e3
      refine px_iald rfl e1 rfl e2 rfl ?_
      refine px_ld rfl rfl rfl rfl rfl ?_
      obtain ⟨t2, h0, h⟩ := xs_some h
      obtain ⟨fs, e1, e2⟩ := xgI_some h0
      refine px_get rfl e1 e2 rfl ?_
      refine px_icne rfl rfl rfl (fun hc => ?_) (fun hc => ?_)
      · replace h := (if_neg hc).symm.trans h
        refine px_ic (k := 0) rfl rfl rfl ?_
        exact (r_M_toldAt_25 @ih h :)
      · replace h := (if_pos hc).symm.trans h
        refine px_ic (k := 1) rfl rfl rfl ?_
        refine px_goto rfl rfl rfl ?_
        exact (r_M_toldAt_25 @ih h :)
def f_M_toldAt (F : Nat) (a0 : Nat) (a1 : Nat) (a2 : Nat) (a3 : Int32) (ph : px_H) : Option (Int32 × px_H) :=
  f_M_toldAt_3 F F a0 a1 a2 a3 (nI 0) ph
theorem r_M_toldAt {l : Launch} {g : px_G} {d F : Nat} {a0 : Nat} {a1 : Nat} {a2 : Nat} {a3 : Int32} {ph : px_H} {r : Int32} {ph' : px_H} (h : f_M_toldAt F a0 a1 a2 a3 ph = some (r, ph')) : PW l g (d + 0) m_M_toldAt 0 [.ref a0, .ref a1, .ref a2, .int a3, px_u, px_u, px_u] [] ph (px_qI r ph') := by
  unfold f_M_toldAt at h
  refine px_ic (k := 0) rfl rfl rfl ?_
  refine px_st (lv' := [_, _, _, _, _, _, _]) rfl rfl rfl rfl rfl rfl rfl ?_
  exact (r_M_toldAt_3 _ h :)
def f_M_give_113 (F : Nat) (a0 : Nat) (a1 : Int64) (a5 : Int32) (ph : px_H) : Option (Int32 × px_H) :=
  (xgR ph 12 35 a0).bind fun t1 =>
  (xgI ph 12 31 a0).bind fun t2 =>
  (xsI ph 1 t1 t2 a5).bind fun ph3 =>
  (xgR ph3 12 37 a0).bind fun t4 =>
  (xgI ph3 12 31 a0).bind fun t5 =>
  (xsJ ph3 2 t4 t5 a1).bind fun ph6 =>
  (xgI ph6 12 31 a0).bind fun t7 =>
  (xpI ph6 12 31 a0 (t7 + (nI 1))).bind fun ph8 =>
  (xgI ph8 12 31 a0).bind fun t9 =>
  some (t9, ph8)
theorem r_M_give_113 {l : Launch} {g : px_G} {d F : Nat} {a0 : Nat} {a1 : Int64} {a5 : Int32} {ph : px_H} {r : Int32} {ph' : px_H} (h : f_M_give_113 F a0 a1 a5 ph = some (r, ph')) : PW l g (d + 1) m_M_give 113 [.ref a0, .long a1, px_u, px_u, px_u, .int a5, px_u] [] ph (px_qI r ph') := by
  unfold f_M_give_113 at h
  refine px_ld rfl rfl rfl rfl rfl ?_
  obtain ⟨t1, h0, h⟩ := xs_some h
  obtain ⟨fs, e1, e2⟩ := xgR_some h0
  refine px_get rfl e1 e2 rfl ?_
  refine px_ld rfl rfl rfl rfl rfl ?_
  obtain ⟨t2, h0, h⟩ := xs_some h
  obtain ⟨fs, e1, e2⟩ := xgI_some h0
  refine px_get rfl e1 e2 rfl ?_
  refine px_ld rfl rfl rfl rfl rfl ?_
  obtain ⟨ph3, h0, h⟩ := xs_some h
  obtain ⟨N, f, e1, e2, e3⟩ := xsI_some h0
  subst e3
  refine px_iast rfl e1 rfl e2 rfl ?_
  refine px_ld rfl rfl rfl rfl rfl ?_
  obtain ⟨t4, h0, h⟩ := xs_some h
  obtain ⟨fs, e1, e2⟩ := xgR_some h0
  refine px_get rfl e1 e2 rfl ?_
  refine px_ld rfl rfl rfl rfl rfl ?_
  obtain ⟨t5, h0, h⟩ := xs_some h
  obtain ⟨fs, e1, e2⟩ := xgI_some h0
  refine px_get rfl e1 e2 rfl ?_
  refine px_ld rfl rfl rfl rfl rfl ?_
  obtain ⟨ph6, h0, h⟩ := xs_some h
  obtain ⟨N, f, e1, e2, e3⟩ := xsJ_some h0
  subst e3
  refine px_last rfl e1 rfl e2 rfl ?_
  refine px_ld rfl rfl rfl rfl rfl ?_
  refine px_alu rfl rfl rfl ?_
  obtain ⟨t7, h0, h⟩ := xs_some h
  obtain ⟨fs, e1, e2⟩ := xgI_some h0
  refine px_get rfl e1 e2 rfl ?_
  refine px_ic (k := 1) rfl rfl rfl ?_
  refine px_alu rfl rfl rfl ?_
  obtain ⟨ph8, h0, h⟩ := xs_some h
  obtain ⟨fs, e1, e2, e3⟩ := xpI_some h0
  subst e3
  refine px_put rfl e1 e2 trivial rfl ?_
  refine px_ld rfl rfl rfl rfl rfl ?_
  obtain ⟨t9, h0, h⟩ := xs_some h
  obtain ⟨fs, e1, e2⟩ := xgI_some h0
  refine px_get rfl e1 e2 rfl ?_
  cases h
  exact px_iret rfl (Or.inl rfl) rfl ⟨rfl, rfl⟩
def f_M_give_78 (F : Nat) : Nat → Nat → Int64 → Int32 → Int32 → px_H → Option (Int32 × px_H)
  | 0, _, _, _, _, _ => none
  | n + 1, a0, a1, a5, a6, ph =>
    if a5 ≤ a6 then
      f_M_give_113 F a0 a1 a5 ph
    else
      (xgR ph 12 33 a0).bind fun t1 =>
      (xgI ph 12 31 a0).bind fun t2 =>
      (xgR ph 12 1 a0).bind fun t3 =>
      (xaI ph 0 t3 a6).bind fun t4 =>
      (xsI ph 0 t1 (((nI 20) * t2) + a6) (t4.toInt8.toInt32)).bind fun ph5 =>
      f_M_give_78 F n a0 a1 a5 (a6 + nI 1) ph5
theorem r_M_give_78 {l : Launch} {g : px_G} {d F : Nat} : ∀ (n : Nat) {a0 : Nat} {a1 : Int64} {a5 : Int32} {a6 : Int32} {ph : px_H} {r : Int32} {ph' : px_H}, f_M_give_78 F n a0 a1 a5 a6 ph = some (r, ph') → PW l g (d + 1) m_M_give 78 [.ref a0, .long a1, px_u, px_u, px_u, .int a5, .int a6] [] ph (px_qI r ph') := by
  intro n
  induction n with
  | zero => intro _ _ _ _ _ _ _ h; cases h
  | succ n ih =>
    intro a0 a1 a5 a6 ph r ph' h
    unfold f_M_give_78 at h
    refine px_ld rfl rfl rfl rfl rfl ?_
    refine px_ld rfl rfl rfl rfl rfl ?_
    refine px_icge rfl (by decide) rfl (fun hc => ?_) (fun hc => ?_)
    · replace h := (if_pos hc).symm.trans h
      refine px_forget (n := 6) (lv' := [_, _, _, _, _, _, _]) rfl ?_
      exact (r_M_give_113 h :)
    · replace h := (if_neg hc).symm.trans h
      refine px_ld rfl rfl rfl rfl rfl ?_
      obtain ⟨t1, h0, h⟩ := xs_some h
      obtain ⟨fs, e1, e2⟩ := xgR_some h0
      refine px_get rfl e1 e2 rfl ?_
      refine px_ic (k := 20) rfl rfl rfl ?_
      refine px_ld rfl rfl rfl rfl rfl ?_
      obtain ⟨t2, h0, h⟩ := xs_some h
      obtain ⟨fs, e1, e2⟩ := xgI_some h0
      refine px_get rfl e1 e2 rfl ?_
      refine px_alu rfl rfl rfl ?_
      refine px_ld rfl rfl rfl rfl rfl ?_
      refine px_alu rfl rfl rfl ?_
      refine px_ld rfl rfl rfl rfl rfl ?_
      obtain ⟨t3, h0, h⟩ := xs_some h
      obtain ⟨fs, e1, e2⟩ := xgR_some h0
      refine px_get rfl e1 e2 rfl ?_
      refine px_ld rfl rfl rfl rfl rfl ?_
      obtain ⟨t4, h0, h⟩ := xs_some h
      obtain ⟨N, f, e1, e2, e3⟩ := xaI_some h0
      subst e3
      refine px_bald rfl e1 rfl e2 rfl ?_
      obtain ⟨ph5, h0, h⟩ := xs_some h
      obtain ⟨N, f, e1, e2, e3⟩ := xsI_some h0
      subst e3
      refine px_bast rfl e1 rfl e2 rfl ?_
      refine px_iinc (lv' := [_, _, _, _, _, _, _]) rfl rfl rfl rfl rfl rfl ?_
      refine px_goto rfl (by decide) rfl ?_
      exact (ih h :)
def f_M_give_50 (F : Nat) (a0 : Nat) (a1 : Int64) (a3 : Int32) (s0 : Int32) (ph : px_H) : Option (Int32 × px_H) :=
  (xgI ph 12 2 a0).bind fun t1 =>
  (xpI ph 12 2 a0 (nI 0)).bind fun ph2 =>
  (xo ph2 12 a0).bind fun _ =>
  xb (f_M_throwing F a0 a3 s0 ph2) fun t3 ph4 =>
  if t3 = 0 then
    f_M_give_78 F F a0 a1 t1 (nI 0) ph4
  else
    some (nI 0, ph4)
theorem r_M_give_50 {l : Launch} {g : px_G} {d F : Nat} {a0 : Nat} {a1 : Int64} {a3 : Int32} {s0 : Int32} {ph : px_H} {r : Int32} {ph' : px_H} (h : f_M_give_50 F a0 a1 a3 s0 ph = some (r, ph')) : PW l g (d + 1) m_M_give 50 [.ref a0, .long a1, px_u, .int a3, px_u, px_u, px_u] [.int s0] ph (px_qI r ph') := by
  unfold f_M_give_50 at h
  refine px_st (lv' := [_, _, _, _, _, _, _]) rfl rfl rfl rfl rfl rfl rfl ?_
  refine px_ld rfl rfl rfl rfl rfl ?_
  obtain ⟨t1, h0, h⟩ := xs_some h
  obtain ⟨fs, e1, e2⟩ := xgI_some h0
  refine px_get rfl e1 e2 rfl ?_
  refine px_st (lv' := [_, _, _, _, _, _, _]) rfl rfl rfl rfl rfl rfl rfl ?_
  refine px_ld rfl rfl rfl rfl rfl ?_
  refine px_ic (k := 0) rfl rfl rfl ?_
  obtain ⟨ph2, h0, h⟩ := xs_some h
  obtain ⟨fs, e1, e2, e3⟩ := xpI_some h0
  subst e3
  refine px_put rfl e1 e2 trivial rfl ?_
  refine px_ld rfl rfl rfl rfl rfl ?_
  refine px_ld rfl rfl rfl rfl rfl ?_
  refine px_ld rfl rfl rfl rfl rfl ?_
  obtain ⟨fs, h0, h⟩ := xs_some h
  have e1 := xo_some h0
  obtain ⟨t3, ph4, h0, h⟩ := xb_some h
  refine px_cV2 rfl rfl e1 rfl rfl rfl rfl rfl rfl rfl (r_M_throwing h0 :) (fun _ _ q => nomatch q.2) (fun r ph' q => ?_)
  obtain ⟨rfl, q⟩ := q
  cases q
  refine px_ifeq rfl (by decide) rfl (fun hc => ?_) (fun hc => ?_)
  · replace h := (if_pos hc).symm.trans h
    refine px_ic (k := 0) rfl rfl rfl ?_
    refine px_st (lv' := [_, _, _, _, _, _, _]) rfl rfl rfl rfl rfl rfl rfl ?_
    refine px_forget (n := 3) (lv' := [_, _, _, _, _, _, _]) rfl ?_
    refine px_forget (n := 4) (lv' := [_, _, _, _, _, _, _]) rfl ?_
    exact (r_M_give_78 _ h :)
  · replace h := (if_neg hc).symm.trans h
    refine px_ic (k := 0) rfl rfl rfl ?_
    cases h
    exact px_iret rfl (Or.inl rfl) rfl ⟨rfl, rfl⟩
def f_M_give_49 (F : Nat) (a0 : Nat) (a1 : Int64) (a3 : Int32) (ph : px_H) : Option (Int32 × px_H) :=
  f_M_give_50 F a0 a1 a3 (nI 0) ph
theorem r_M_give_49 {l : Launch} {g : px_G} {d F : Nat} {a0 : Nat} {a1 : Int64} {a3 : Int32} {ph : px_H} {r : Int32} {ph' : px_H} (h : f_M_give_49 F a0 a1 a3 ph = some (r, ph')) : PW l g (d + 1) m_M_give 49 [.ref a0, .long a1, px_u, .int a3, px_u, px_u, px_u] [] ph (px_qI r ph') := by
  unfold f_M_give_49 at h
  refine px_ic (k := 0) rfl rfl rfl ?_
  exact (r_M_give_50 h :)
def f_M_give_45 (F : Nat) (a0 : Nat) (a1 : Int64) (a3 : Int32) (ph : px_H) : Option (Int32 × px_H) :=
  f_M_give_50 F a0 a1 a3 (nI 1) ph
theorem r_M_give_45 {l : Launch} {g : px_G} {d F : Nat} {a0 : Nat} {a1 : Int64} {a3 : Int32} {ph : px_H} {r : Int32} {ph' : px_H} (h : f_M_give_45 F a0 a1 a3 ph = some (r, ph')) : PW l g (d + 1) m_M_give 45 [.ref a0, .long a1, px_u, .int a3, px_u, px_u, px_u] [] ph (px_qI r ph') := by
  unfold f_M_give_45 at h
  refine px_ic (k := 1) rfl rfl rfl ?_
  refine px_goto rfl (by decide) rfl ?_
  exact (r_M_give_50 h :)
def f_M_give_12 (F : Nat) (a0 : Nat) (a1 : Int64) (s0 : Int32) (ph : px_H) : Option (Int32 × px_H) :=
  if s0 = 0 then
    (xgI ph 12 31 a0).bind fun t1 =>
    if t1 = (nI 16) then
      f_M_give_45 F a0 a1 s0 ph
    else
      (xgR ph 12 33 a0).bind fun t2 =>
      (xgR ph 12 35 a0).bind fun t3 =>
      (xgI ph 12 31 a0).bind fun t4 =>
      (xo ph 12 a0).bind fun _ =>
      xb (f_M_toldAt F a0 t2 t3 t4 ph) fun t5 ph6 =>
      if t5 < 0 then
        f_M_give_49 F a0 a1 s0 ph6
      else
        f_M_give_45 F a0 a1 s0 ph6
  else
    f_M_give_49 F a0 a1 s0 ph
theorem r_M_give_12 {l : Launch} {g : px_G} {d F : Nat} {a0 : Nat} {a1 : Int64} {s0 : Int32} {ph : px_H} {r : Int32} {ph' : px_H} (h : f_M_give_12 F a0 a1 s0 ph = some (r, ph')) : PW l g (d + 1) m_M_give 12 [.ref a0, .long a1, px_u, px_u, px_u, px_u, px_u] [.int s0] ph (px_qI r ph') := by
  unfold f_M_give_12 at h
  refine px_st (lv' := [_, _, _, _, _, _, _]) rfl rfl rfl rfl rfl rfl rfl ?_
  refine px_ld rfl rfl rfl rfl rfl ?_
  refine px_ifne rfl (by decide) rfl (fun hc => ?_) (fun hc => ?_)
  · replace h := (if_neg hc).symm.trans h
    exact (r_M_give_49 h :)
  · replace h := (if_pos hc).symm.trans h
    refine px_ld rfl rfl rfl rfl rfl ?_
    obtain ⟨t1, h0, h⟩ := xs_some h
    obtain ⟨fs, e1, e2⟩ := xgI_some h0
    refine px_get rfl e1 e2 rfl ?_
    refine px_ic (k := 16) rfl rfl rfl ?_
    refine px_iceq rfl (by decide) rfl (fun hc => ?_) (fun hc => ?_)
    · replace h := (if_pos hc).symm.trans h
      exact (r_M_give_45 h :)
    · replace h := (if_neg hc).symm.trans h
      refine px_ld rfl rfl rfl rfl rfl ?_
      refine px_ld rfl rfl rfl rfl rfl ?_
      obtain ⟨t2, h0, h⟩ := xs_some h
      obtain ⟨fs, e1, e2⟩ := xgR_some h0
      refine px_get rfl e1 e2 rfl ?_
      refine px_ld rfl rfl rfl rfl rfl ?_
      obtain ⟨t3, h0, h⟩ := xs_some h
      obtain ⟨fs, e1, e2⟩ := xgR_some h0
      refine px_get rfl e1 e2 rfl ?_
      refine px_ld rfl rfl rfl rfl rfl ?_
      obtain ⟨t4, h0, h⟩ := xs_some h
      obtain ⟨fs, e1, e2⟩ := xgI_some h0
      refine px_get rfl e1 e2 rfl ?_
      obtain ⟨fs, h0, h⟩ := xs_some h
      have e1 := xo_some h0
      obtain ⟨t5, ph6, h0, h⟩ := xb_some h
      refine px_cV3 rfl rfl e1 rfl rfl rfl rfl rfl rfl rfl (r_M_toldAt h0 :) (fun _ _ q => nomatch q.2) (fun r ph' q => ?_)
      obtain ⟨rfl, q⟩ := q
      cases q
      refine px_iflt rfl (by decide) rfl (fun hc => ?_) (fun hc => ?_)
      · replace h := (if_pos hc).symm.trans h
        exact (r_M_give_49 h :)
      · replace h := (if_neg hc).symm.trans h
        exact (r_M_give_45 h :)
def f_M_give (F : Nat) (a0 : Nat) (a1 : Int64) (ph : px_H) : Option (Int32 × px_H) :=
  (xo ph 12 a0).bind fun _ =>
  xb (f_M_isTapeName F a0 ph) fun t1 ph2 =>
  if t1 = 0 then
    f_M_give_12 F a0 a1 (nI 1) ph2
  else
    f_M_give_12 F a0 a1 (nI 0) ph2
theorem r_M_give {l : Launch} {g : px_G} {d F : Nat} {a0 : Nat} {a1 : Int64} {ph : px_H} {r : Int32} {ph' : px_H} (h : f_M_give F a0 a1 ph = some (r, ph')) : PW l g (d + 1) m_M_give 0 [.ref a0, .long a1, px_u, px_u, px_u, px_u, px_u] [] ph (px_qI r ph') := by
  unfold f_M_give at h
  refine px_ld rfl rfl rfl rfl rfl ?_
  obtain ⟨fs, h0, h⟩ := xs_some h
  have e1 := xo_some h0
  obtain ⟨t1, ph2, h0, h⟩ := xb_some h
  refine px_cV0 rfl rfl e1 rfl rfl rfl rfl rfl rfl rfl (r_M_isTapeName h0 :) (fun _ _ q => nomatch q.2) (fun r ph' q => ?_)
  obtain ⟨rfl, q⟩ := q
  cases q
  refine px_ifne rfl (by decide) rfl (fun hc => ?_) (fun hc => ?_)
  · replace h := (if_neg hc).symm.trans h
    refine px_ic (k := 0) rfl rfl rfl ?_
    exact (r_M_give_12 h :)
  · replace h := (if_pos hc).symm.trans h
    refine px_ic (k := 1) rfl rfl rfl ?_
    refine px_goto rfl (by decide) rfl ?_
    exact (r_M_give_12 h :)
def f_M_wish_109 (F : Nat) (a0 : Nat) (a3 : Int32) (ph : px_H) : Option (Int32 × px_H) :=
  (xgR ph 12 36 a0).bind fun t1 =>
  (xgI ph 12 32 a0).bind fun t2 =>
  (xsI ph 1 t1 t2 a3).bind fun ph3 =>
  (xgI ph3 12 32 a0).bind fun t4 =>
  (xpI ph3 12 32 a0 (t4 + (nI 1))).bind fun ph5 =>
  (xgI ph5 12 32 a0).bind fun t6 =>
  some (t6, ph5)
theorem r_M_wish_109 {l : Launch} {g : px_G} {d F : Nat} {a0 : Nat} {a3 : Int32} {ph : px_H} {r : Int32} {ph' : px_H} (h : f_M_wish_109 F a0 a3 ph = some (r, ph')) : PW l g (d + 1) m_M_wish 109 [.ref a0, px_u, px_u, .int a3, px_u] [] ph (px_qI r ph') := by
  unfold f_M_wish_109 at h
  refine px_ld rfl rfl rfl rfl rfl ?_
  obtain ⟨t1, h0, h⟩ := xs_some h
  obtain ⟨fs, e1, e2⟩ := xgR_some h0
  refine px_get rfl e1 e2 rfl ?_
  refine px_ld rfl rfl rfl rfl rfl ?_
  obtain ⟨t2, h0, h⟩ := xs_some h
  obtain ⟨fs, e1, e2⟩ := xgI_some h0
  refine px_get rfl e1 e2 rfl ?_
  refine px_ld rfl rfl rfl rfl rfl ?_
  obtain ⟨ph3, h0, h⟩ := xs_some h
  obtain ⟨N, f, e1, e2, e3⟩ := xsI_some h0
  subst e3
  refine px_iast rfl e1 rfl e2 rfl ?_
  refine px_ld rfl rfl rfl rfl rfl ?_
  refine px_alu rfl rfl rfl ?_
  obtain ⟨t4, h0, h⟩ := xs_some h
  obtain ⟨fs, e1, e2⟩ := xgI_some h0
  refine px_get rfl e1 e2 rfl ?_
  refine px_ic (k := 1) rfl rfl rfl ?_
  refine px_alu rfl rfl rfl ?_
  obtain ⟨ph5, h0, h⟩ := xs_some h
  obtain ⟨fs, e1, e2, e3⟩ := xpI_some h0
  subst e3
  refine px_put rfl e1 e2 trivial rfl ?_
  refine px_ld rfl rfl rfl rfl rfl ?_
  obtain ⟨t6, h0, h⟩ := xs_some h
  obtain ⟨fs, e1, e2⟩ := xgI_some h0
  refine px_get rfl e1 e2 rfl ?_
  cases h
  exact px_iret rfl (Or.inl rfl) rfl ⟨rfl, rfl⟩
def f_M_wish_75 (F : Nat) : Nat → Nat → Int32 → Int32 → px_H → Option (Int32 × px_H)
  | 0, _, _, _, _ => none
  | n + 1, a0, a3, a4, ph =>
    if a3 ≤ a4 then
      f_M_wish_109 F a0 a3 ph
    else
      (xgR ph 12 34 a0).bind fun t1 =>
      (xgI ph 12 32 a0).bind fun t2 =>
      (xgR ph 12 1 a0).bind fun t3 =>
      (xaI ph 0 t3 a4).bind fun t4 =>
      (xsI ph 0 t1 (((nI 20) * t2) + a4) (t4.toInt8.toInt32)).bind fun ph5 =>
      f_M_wish_75 F n a0 a3 (a4 + nI 1) ph5
theorem r_M_wish_75 {l : Launch} {g : px_G} {d F : Nat} : ∀ (n : Nat) {a0 : Nat} {a3 : Int32} {a4 : Int32} {ph : px_H} {r : Int32} {ph' : px_H}, f_M_wish_75 F n a0 a3 a4 ph = some (r, ph') → PW l g (d + 1) m_M_wish 75 [.ref a0, px_u, px_u, .int a3, .int a4] [] ph (px_qI r ph') := by
  intro n
  induction n with
  | zero => intro _ _ _ _ _ _ h; cases h
  | succ n ih =>
    intro a0 a3 a4 ph r ph' h
    unfold f_M_wish_75 at h
    refine px_ld rfl rfl rfl rfl rfl ?_
    refine px_ld rfl rfl rfl rfl rfl ?_
    refine px_icge rfl (by decide) rfl (fun hc => ?_) (fun hc => ?_)
    · replace h := (if_pos hc).symm.trans h
      refine px_forget (n := 4) (lv' := [_, _, _, _, _]) rfl ?_
      exact (r_M_wish_109 h :)
    · replace h := (if_neg hc).symm.trans h
      refine px_ld rfl rfl rfl rfl rfl ?_
      obtain ⟨t1, h0, h⟩ := xs_some h
      obtain ⟨fs, e1, e2⟩ := xgR_some h0
      refine px_get rfl e1 e2 rfl ?_
      refine px_ic (k := 20) rfl rfl rfl ?_
      refine px_ld rfl rfl rfl rfl rfl ?_
      obtain ⟨t2, h0, h⟩ := xs_some h
      obtain ⟨fs, e1, e2⟩ := xgI_some h0
      refine px_get rfl e1 e2 rfl ?_
      refine px_alu rfl rfl rfl ?_
      refine px_ld rfl rfl rfl rfl rfl ?_
      refine px_alu rfl rfl rfl ?_
      refine px_ld rfl rfl rfl rfl rfl ?_
      obtain ⟨t3, h0, h⟩ := xs_some h
      obtain ⟨fs, e1, e2⟩ := xgR_some h0
      refine px_get rfl e1 e2 rfl ?_
      refine px_ld rfl rfl rfl rfl rfl ?_
      obtain ⟨t4, h0, h⟩ := xs_some h
      obtain ⟨N, f, e1, e2, e3⟩ := xaI_some h0
      subst e3
      refine px_bald rfl e1 rfl e2 rfl ?_
      obtain ⟨ph5, h0, h⟩ := xs_some h
      obtain ⟨N, f, e1, e2, e3⟩ := xsI_some h0
      subst e3
      refine px_bast rfl e1 rfl e2 rfl ?_
      refine px_iinc (lv' := [_, _, _, _, _]) rfl rfl rfl rfl rfl rfl ?_
      refine px_goto rfl (by decide) rfl ?_
      exact (ih h :)
def f_M_wish_50 (F : Nat) (a0 : Nat) (a1 : Int32) (s0 : Int32) (ph : px_H) : Option (Int32 × px_H) :=
  (xgI ph 12 2 a0).bind fun t1 =>
  (xpI ph 12 2 a0 (nI 0)).bind fun ph2 =>
  (xo ph2 12 a0).bind fun _ =>
  xb (f_M_throwing F a0 a1 s0 ph2) fun t3 ph4 =>
  if t3 = 0 then
    f_M_wish_75 F F a0 t1 (nI 0) ph4
  else
    some (nI 0, ph4)
theorem r_M_wish_50 {l : Launch} {g : px_G} {d F : Nat} {a0 : Nat} {a1 : Int32} {s0 : Int32} {ph : px_H} {r : Int32} {ph' : px_H} (h : f_M_wish_50 F a0 a1 s0 ph = some (r, ph')) : PW l g (d + 1) m_M_wish 50 [.ref a0, .int a1, px_u, px_u, px_u] [.int s0] ph (px_qI r ph') := by
  unfold f_M_wish_50 at h
  refine px_st (lv' := [_, _, _, _, _]) rfl rfl rfl rfl rfl rfl rfl ?_
  refine px_ld rfl rfl rfl rfl rfl ?_
  obtain ⟨t1, h0, h⟩ := xs_some h
  obtain ⟨fs, e1, e2⟩ := xgI_some h0
  refine px_get rfl e1 e2 rfl ?_
  refine px_st (lv' := [_, _, _, _, _]) rfl rfl rfl rfl rfl rfl rfl ?_
  refine px_ld rfl rfl rfl rfl rfl ?_
  refine px_ic (k := 0) rfl rfl rfl ?_
  obtain ⟨ph2, h0, h⟩ := xs_some h
  obtain ⟨fs, e1, e2, e3⟩ := xpI_some h0
  subst e3
  refine px_put rfl e1 e2 trivial rfl ?_
  refine px_ld rfl rfl rfl rfl rfl ?_
  refine px_ld rfl rfl rfl rfl rfl ?_
  refine px_ld rfl rfl rfl rfl rfl ?_
  obtain ⟨fs, h0, h⟩ := xs_some h
  have e1 := xo_some h0
  obtain ⟨t3, ph4, h0, h⟩ := xb_some h
  refine px_cV2 rfl rfl e1 rfl rfl rfl rfl rfl rfl rfl (r_M_throwing h0 :) (fun _ _ q => nomatch q.2) (fun r ph' q => ?_)
  obtain ⟨rfl, q⟩ := q
  cases q
  refine px_ifeq rfl (by decide) rfl (fun hc => ?_) (fun hc => ?_)
  · replace h := (if_pos hc).symm.trans h
    refine px_ic (k := 0) rfl rfl rfl ?_
    refine px_st (lv' := [_, _, _, _, _]) rfl rfl rfl rfl rfl rfl rfl ?_
    refine px_forget (n := 1) (lv' := [_, _, _, _, _]) rfl ?_
    refine px_forget (n := 2) (lv' := [_, _, _, _, _]) rfl ?_
    exact (r_M_wish_75 _ h :)
  · replace h := (if_neg hc).symm.trans h
    refine px_ic (k := 0) rfl rfl rfl ?_
    cases h
    exact px_iret rfl (Or.inl rfl) rfl ⟨rfl, rfl⟩
def f_M_wish_49 (F : Nat) (a0 : Nat) (a1 : Int32) (ph : px_H) : Option (Int32 × px_H) :=
  f_M_wish_50 F a0 a1 (nI 0) ph
theorem r_M_wish_49 {l : Launch} {g : px_G} {d F : Nat} {a0 : Nat} {a1 : Int32} {ph : px_H} {r : Int32} {ph' : px_H} (h : f_M_wish_49 F a0 a1 ph = some (r, ph')) : PW l g (d + 1) m_M_wish 49 [.ref a0, .int a1, px_u, px_u, px_u] [] ph (px_qI r ph') := by
  unfold f_M_wish_49 at h
  refine px_ic (k := 0) rfl rfl rfl ?_
  exact (r_M_wish_50 h :)
def f_M_wish_45 (F : Nat) (a0 : Nat) (a1 : Int32) (ph : px_H) : Option (Int32 × px_H) :=
  f_M_wish_50 F a0 a1 (nI 1) ph
theorem r_M_wish_45 {l : Launch} {g : px_G} {d F : Nat} {a0 : Nat} {a1 : Int32} {ph : px_H} {r : Int32} {ph' : px_H} (h : f_M_wish_45 F a0 a1 ph = some (r, ph')) : PW l g (d + 1) m_M_wish 45 [.ref a0, .int a1, px_u, px_u, px_u] [] ph (px_qI r ph') := by
  unfold f_M_wish_45 at h
  refine px_ic (k := 1) rfl rfl rfl ?_
  refine px_goto rfl (by decide) rfl ?_
  exact (r_M_wish_50 h :)
def f_M_wish_12 (F : Nat) (a0 : Nat) (s0 : Int32) (ph : px_H) : Option (Int32 × px_H) :=
  if s0 = 0 then
    (xgI ph 12 32 a0).bind fun t1 =>
    if t1 = (nI 16) then
      f_M_wish_45 F a0 s0 ph
    else
      (xgR ph 12 34 a0).bind fun t2 =>
      (xgR ph 12 36 a0).bind fun t3 =>
      (xgI ph 12 32 a0).bind fun t4 =>
      (xo ph 12 a0).bind fun _ =>
      xb (f_M_toldAt F a0 t2 t3 t4 ph) fun t5 ph6 =>
      if t5 < 0 then
        f_M_wish_49 F a0 s0 ph6
      else
        f_M_wish_45 F a0 s0 ph6
  else
    f_M_wish_49 F a0 s0 ph
theorem r_M_wish_12 {l : Launch} {g : px_G} {d F : Nat} {a0 : Nat} {s0 : Int32} {ph : px_H} {r : Int32} {ph' : px_H} (h : f_M_wish_12 F a0 s0 ph = some (r, ph')) : PW l g (d + 1) m_M_wish 12 [.ref a0, px_u, px_u, px_u, px_u] [.int s0] ph (px_qI r ph') := by
  unfold f_M_wish_12 at h
  refine px_st (lv' := [_, _, _, _, _]) rfl rfl rfl rfl rfl rfl rfl ?_
  refine px_ld rfl rfl rfl rfl rfl ?_
  refine px_ifne rfl (by decide) rfl (fun hc => ?_) (fun hc => ?_)
  · replace h := (if_neg hc).symm.trans h
    exact (r_M_wish_49 h :)
  · replace h := (if_pos hc).symm.trans h
    refine px_ld rfl rfl rfl rfl rfl ?_
    obtain ⟨t1, h0, h⟩ := xs_some h
    obtain ⟨fs, e1, e2⟩ := xgI_some h0
    refine px_get rfl e1 e2 rfl ?_
    refine px_ic (k := 16) rfl rfl rfl ?_
    refine px_iceq rfl (by decide) rfl (fun hc => ?_) (fun hc => ?_)
    · replace h := (if_pos hc).symm.trans h
      exact (r_M_wish_45 h :)
    · replace h := (if_neg hc).symm.trans h
      refine px_ld rfl rfl rfl rfl rfl ?_
      refine px_ld rfl rfl rfl rfl rfl ?_
      obtain ⟨t2, h0, h⟩ := xs_some h
      obtain ⟨fs, e1, e2⟩ := xgR_some h0
      refine px_get rfl e1 e2 rfl ?_
      refine px_ld rfl rfl rfl rfl rfl ?_
      obtain ⟨t3, h0, h⟩ := xs_some h
      obtain ⟨fs, e1, e2⟩ := xgR_some h0
      refine px_get rfl e1 e2 rfl ?_
      refine px_ld rfl rfl rfl rfl rfl ?_
      obtain ⟨t4, h0, h⟩ := xs_some h
      obtain ⟨fs, e1, e2⟩ := xgI_some h0
      refine px_get rfl e1 e2 rfl ?_
      obtain ⟨fs, h0, h⟩ := xs_some h
      have e1 := xo_some h0
      obtain ⟨t5, ph6, h0, h⟩ := xb_some h
      refine px_cV3 rfl rfl e1 rfl rfl rfl rfl rfl rfl rfl (r_M_toldAt h0 :) (fun _ _ q => nomatch q.2) (fun r ph' q => ?_)
      obtain ⟨rfl, q⟩ := q
      cases q
      refine px_iflt rfl (by decide) rfl (fun hc => ?_) (fun hc => ?_)
      · replace h := (if_pos hc).symm.trans h
        exact (r_M_wish_49 h :)
      · replace h := (if_neg hc).symm.trans h
        exact (r_M_wish_45 h :)
def f_M_wish (F : Nat) (a0 : Nat) (ph : px_H) : Option (Int32 × px_H) :=
  (xo ph 12 a0).bind fun _ =>
  xb (f_M_isTapeName F a0 ph) fun t1 ph2 =>
  if t1 = 0 then
    f_M_wish_12 F a0 (nI 1) ph2
  else
    f_M_wish_12 F a0 (nI 0) ph2
theorem r_M_wish {l : Launch} {g : px_G} {d F : Nat} {a0 : Nat} {ph : px_H} {r : Int32} {ph' : px_H} (h : f_M_wish F a0 ph = some (r, ph')) : PW l g (d + 1) m_M_wish 0 [.ref a0, px_u, px_u, px_u, px_u] [] ph (px_qI r ph') := by
  unfold f_M_wish at h
  refine px_ld rfl rfl rfl rfl rfl ?_
  obtain ⟨fs, h0, h⟩ := xs_some h
  have e1 := xo_some h0
  obtain ⟨t1, ph2, h0, h⟩ := xb_some h
  refine px_cV0 rfl rfl e1 rfl rfl rfl rfl rfl rfl rfl (r_M_isTapeName h0 :) (fun _ _ q => nomatch q.2) (fun r ph' q => ?_)
  obtain ⟨rfl, q⟩ := q
  cases q
  refine px_ifne rfl (by decide) rfl (fun hc => ?_) (fun hc => ?_)
  · replace h := (if_neg hc).symm.trans h
    refine px_ic (k := 0) rfl rfl rfl ?_
    exact (r_M_wish_12 h :)
  · replace h := (if_pos hc).symm.trans h
    refine px_ic (k := 1) rfl rfl rfl ?_
    refine px_goto rfl (by decide) rfl ?_
    exact (r_M_wish_12 h :)
def f_M_forget (F : Nat) (a0 : Nat) (ph : px_H) : Option (Unit × px_H) :=
  (xpI ph 12 0 a0 (nI 0)).bind fun ph1 =>
  (xpI ph1 12 31 a0 (nI 0)).bind fun ph2 =>
  (xpI ph2 12 32 a0 (nI 0)).bind fun ph3 =>
  some ((), ph3)
theorem r_M_forget {l : Launch} {g : px_G} {d F : Nat} {a0 : Nat} {ph : px_H} {r : Unit} {ph' : px_H} (h : f_M_forget F a0 ph = some (r, ph')) : PW l g (d + 0) m_M_forget 0 [.ref a0] [] ph (px_qV r ph') := by
  unfold f_M_forget at h
  refine px_ld rfl rfl rfl rfl rfl ?_
  refine px_ic (k := 0) rfl rfl rfl ?_
  obtain ⟨ph1, h0, h⟩ := xs_some h
  obtain ⟨fs, e1, e2, e3⟩ := xpI_some h0
  subst e3
  refine px_put rfl e1 e2 trivial rfl ?_
  refine px_ld rfl rfl rfl rfl rfl ?_
  refine px_ic (k := 0) rfl rfl rfl ?_
  obtain ⟨ph2, h0, h⟩ := xs_some h
  obtain ⟨fs, e1, e2, e3⟩ := xpI_some h0
  subst e3
  refine px_put rfl e1 e2 trivial rfl ?_
  refine px_ld rfl rfl rfl rfl rfl ?_
  refine px_ic (k := 0) rfl rfl rfl ?_
  obtain ⟨ph3, h0, h⟩ := xs_some h
  obtain ⟨fs, e1, e2, e3⟩ := xpI_some h0
  subst e3
  refine px_put rfl e1 e2 trivial rfl ?_
  cases h
  exact px_vret rfl rfl rfl ⟨rfl, rfl⟩
def f_M_find_101 (F : Nat) (ph : px_H) : Option (Int32 × px_H) :=
  some (Int32.ofInt (-1), ph)
theorem r_M_find_101 {l : Launch} {g : px_G} {d F : Nat} {ph : px_H} {r : Int32} {ph' : px_H} (h : f_M_find_101 F ph = some (r, ph')) : PW l g (d + 0) m_M_find 101 [px_u, px_u, px_u, px_u, px_u, px_u, px_u] [] ph (px_qI r ph') := by
  unfold f_M_find_101 at h
  refine px_alu rfl rfl rfl ?_
  cases h
  exact px_iret rfl (Or.inl rfl) rfl ⟨rfl, rfl⟩
def f_M_find_92 (F : Nat) (a4 : Int32) (ph : px_H) : Option (Int32 × px_H) :=
  some (a4, ph)
theorem r_M_find_92 {l : Launch} {g : px_G} {d F : Nat} {a4 : Int32} {ph : px_H} {r : Int32} {ph' : px_H} (h : f_M_find_92 F a4 ph = some (r, ph')) : PW l g (d + 0) m_M_find 92 [px_u, px_u, px_u, px_u, .int a4, px_u, px_u] [] ph (px_qI r ph') := by
  unfold f_M_find_92 at h
  refine px_ld rfl rfl rfl rfl rfl ?_
  cases h
  exact px_iret rfl (Or.inl rfl) rfl ⟨rfl, rfl⟩
def f_M_find_87 (F : Nat) (k3 : Nat → Nat → Int32 → Int32 → Int32 → px_H → Option (Int32 × px_H)) (a0 : Nat) (a1 : Nat) (a2 : Int32) (a3 : Int32) (a4 : Int32) (a5 : Int32) (ph : px_H) : Option (Int32 × px_H) :=
  if a5 = 0 then
    k3 a0 a1 a2 a3 (a4 + nI 1) ph
  else
    f_M_find_92 F a4 ph
theorem r_M_find_87 {l : Launch} {g : px_G} {d F : Nat} {k3 : Nat → Nat → Int32 → Int32 → Int32 → px_H → Option (Int32 × px_H)} (hk3 : ∀ {a0 : Nat} {a1 : Nat} {a2 : Int32} {a3 : Int32} {a4 : Int32} {ph : px_H} {r : Int32} {ph' : px_H}, k3 a0 a1 a2 a3 a4 ph = some (r, ph') → PW l g (d + 0) m_M_find 3 [.ref a0, .ref a1, .int a2, .int a3, .int a4, px_u, px_u] [] ph (px_qI r ph')) {a0 : Nat} {a1 : Nat} {a2 : Int32} {a3 : Int32} {a4 : Int32} {a5 : Int32} {ph : px_H} {r : Int32} {ph' : px_H} (h : f_M_find_87 F k3 a0 a1 a2 a3 a4 a5 ph = some (r, ph')) : PW l g (d + 0) m_M_find 87 [.ref a0, .ref a1, .int a2, .int a3, .int a4, .int a5, px_u] [] ph (px_qI r ph') := by
  unfold f_M_find_87 at h
  refine px_ld rfl rfl rfl rfl rfl ?_
  refine px_ifeq rfl rfl rfl (fun hc => ?_) (fun hc => ?_)
  · replace h := (if_pos hc).symm.trans h
    refine px_iinc (lv' := [_, _, _, _, _, _, _]) rfl rfl rfl rfl rfl rfl ?_
    refine px_goto rfl rfl rfl ?_
    refine px_forget (n := 5) (lv' := [_, _, _, _, _, _, _]) rfl ?_
    exact (hk3 h :)
  · replace h := (if_neg hc).symm.trans h
    refine px_forget (n := 0) (lv' := [_, _, _, _, _, _, _]) rfl ?_
    refine px_forget (n := 1) (lv' := [_, _, _, _, _, _, _]) rfl ?_
    refine px_forget (n := 2) (lv' := [_, _, _, _, _, _, _]) rfl ?_
    refine px_forget (n := 3) (lv' := [_, _, _, _, _, _, _]) rfl ?_
    refine px_forget (n := 5) (lv' := [_, _, _, _, _, _, _]) rfl ?_
    exact (r_M_find_92 h :)
def f_M_find_79 (F : Nat) (k3 : Nat → Nat → Int32 → Int32 → Int32 → px_H → Option (Int32 × px_H)) (k35 : Nat → Nat → Int32 → Int32 → Int32 → Int32 → Int32 → px_H → Option (Int32 × px_H)) (a0 : Nat) (a1 : Nat) (a2 : Int32) (a3 : Int32) (a4 : Int32) (a6 : Int32) (s0 : Int32) (ph : px_H) : Option (Int32 × px_H) :=
  k35 a0 a1 a2 a3 a4 s0 (a6 + nI 1) ph
theorem r_M_find_79 {l : Launch} {g : px_G} {d F : Nat} {k3 : Nat → Nat → Int32 → Int32 → Int32 → px_H → Option (Int32 × px_H)} (hk3 : ∀ {a0 : Nat} {a1 : Nat} {a2 : Int32} {a3 : Int32} {a4 : Int32} {ph : px_H} {r : Int32} {ph' : px_H}, k3 a0 a1 a2 a3 a4 ph = some (r, ph') → PW l g (d + 0) m_M_find 3 [.ref a0, .ref a1, .int a2, .int a3, .int a4, px_u, px_u] [] ph (px_qI r ph')) {k35 : Nat → Nat → Int32 → Int32 → Int32 → Int32 → Int32 → px_H → Option (Int32 × px_H)} (hk35 : ∀ {a0 : Nat} {a1 : Nat} {a2 : Int32} {a3 : Int32} {a4 : Int32} {a5 : Int32} {a6 : Int32} {ph : px_H} {r : Int32} {ph' : px_H}, k35 a0 a1 a2 a3 a4 a5 a6 ph = some (r, ph') → PW l g (d + 0) m_M_find 35 [.ref a0, .ref a1, .int a2, .int a3, .int a4, .int a5, .int a6] [] ph (px_qI r ph')) {a0 : Nat} {a1 : Nat} {a2 : Int32} {a3 : Int32} {a4 : Int32} {a6 : Int32} {s0 : Int32} {ph : px_H} {r : Int32} {ph' : px_H} (h : f_M_find_79 F k3 k35 a0 a1 a2 a3 a4 a6 s0 ph = some (r, ph')) : PW l g (d + 0) m_M_find 79 [.ref a0, .ref a1, .int a2, .int a3, .int a4, px_u, .int a6] [.int s0] ph (px_qI r ph') := by
  unfold f_M_find_79 at h
  refine px_st (lv' := [_, _, _, _, _, _, _]) rfl rfl rfl rfl rfl rfl rfl ?_
  refine px_iinc (lv' := [_, _, _, _, _, _, _]) rfl rfl rfl rfl rfl rfl ?_
  refine px_goto rfl rfl rfl ?_
  exact (hk35 h :)
def f_M_find_35 (F : Nat) (k3 : Nat → Nat → Int32 → Int32 → Int32 → px_H → Option (Int32 × px_H)) : Nat → Nat → Nat → Int32 → Int32 → Int32 → Int32 → Int32 → px_H → Option (Int32 × px_H)
  | 0, _, _, _, _, _, _, _, _ => none
  | n + 1, a0, a1, a2, a3, a4, a5, a6, ph =>
    (xgR ph 12 22 a0).bind fun t1 =>
    (xaI ph 1 t1 a4).bind fun t2 =>
    if t2 ≤ a6 then
      f_M_find_87 F k3 a0 a1 a2 a3 a4 a5 ph
    else
      if a5 = 0 then
        f_M_find_87 F k3 a0 a1 a2 a3 a4 a5 ph
      else
        (xgR ph 12 21 a0).bind fun t3 =>
        (xaI ph 0 t3 (((nI 20) * a4) + a6)).bind fun t4 =>
        (xaI ph 0 a1 (a2 + a6)).bind fun t5 =>
        if t4 = t5 then
          f_M_find_79 F k3 (f_M_find_35 F k3 n) a0 a1 a2 a3 a4 a6 (nI 1) ph
        else
          f_M_find_79 F k3 (f_M_find_35 F k3 n) a0 a1 a2 a3 a4 a6 (nI 0) ph
theorem r_M_find_35 {l : Launch} {g : px_G} {d F : Nat} {k3 : Nat → Nat → Int32 → Int32 → Int32 → px_H → Option (Int32 × px_H)} (hk3 : ∀ {a0 : Nat} {a1 : Nat} {a2 : Int32} {a3 : Int32} {a4 : Int32} {ph : px_H} {r : Int32} {ph' : px_H}, k3 a0 a1 a2 a3 a4 ph = some (r, ph') → PW l g (d + 0) m_M_find 3 [.ref a0, .ref a1, .int a2, .int a3, .int a4, px_u, px_u] [] ph (px_qI r ph')) : ∀ (n : Nat) {a0 : Nat} {a1 : Nat} {a2 : Int32} {a3 : Int32} {a4 : Int32} {a5 : Int32} {a6 : Int32} {ph : px_H} {r : Int32} {ph' : px_H}, f_M_find_35 F k3 n a0 a1 a2 a3 a4 a5 a6 ph = some (r, ph') → PW l g (d + 0) m_M_find 35 [.ref a0, .ref a1, .int a2, .int a3, .int a4, .int a5, .int a6] [] ph (px_qI r ph') := by
  intro n
  induction n with
  | zero => intro _ _ _ _ _ _ _ _ _ _ h; cases h
  | succ n ih =>
    intro a0 a1 a2 a3 a4 a5 a6 ph r ph' h
    unfold f_M_find_35 at h
    refine px_ld rfl rfl rfl rfl rfl ?_
    refine px_ld rfl rfl rfl rfl rfl ?_
    obtain ⟨t1, h0, h⟩ := xs_some h
    obtain ⟨fs, e1, e2⟩ := xgR_some h0
    refine px_get rfl e1 e2 rfl ?_
    refine px_ld rfl rfl rfl rfl rfl ?_
    obtain ⟨t2, h0, h⟩ := xs_some h
    obtain ⟨N, f, e1, e2, e3⟩ := xaI_some h0
    subst e3
    refine px_iald rfl e1 rfl e2 rfl ?_
    refine px_icge rfl rfl rfl (fun hc => ?_) (fun hc => ?_)
    · replace h := (if_pos hc).symm.trans h
      refine px_forget (n := 6) (lv' := [_, _, _, _, _, _, _]) rfl ?_
      exact (r_M_find_87 @hk3 h :)
    · replace h := (if_neg hc).symm.trans h
      refine px_ld rfl rfl rfl rfl rfl ?_
      refine px_ifeq rfl rfl rfl (fun hc => ?_) (fun hc => ?_)
      · replace h := (if_pos hc).symm.trans h
        refine px_forget (n := 6) (lv' := [_, _, _, _, _, _, _]) rfl ?_
        exact (r_M_find_87 @hk3 h :)
      · replace h := (if_neg hc).symm.trans h
        refine px_ld rfl rfl rfl rfl rfl ?_
        obtain ⟨t3, h0, h⟩ := xs_some h
        obtain ⟨fs, e1, e2⟩ := xgR_some h0
        refine px_get rfl e1 e2 rfl ?_
        refine px_ic (k := 20) rfl rfl rfl ?_
        refine px_ld rfl rfl rfl rfl rfl ?_
        refine px_alu rfl rfl rfl ?_
        refine px_ld rfl rfl rfl rfl rfl ?_
        refine px_alu rfl rfl rfl ?_
        obtain ⟨t4, h0, h⟩ := xs_some h
        obtain ⟨N, f, e1, e2, e3⟩ := xaI_some h0
        subst e3
        refine px_bald rfl e1 rfl e2 rfl ?_
        refine px_ld rfl rfl rfl rfl rfl ?_
        refine px_ld rfl rfl rfl rfl rfl ?_
        refine px_ld rfl rfl rfl rfl rfl ?_
        refine px_alu rfl rfl rfl ?_
        obtain ⟨t5, h0, h⟩ := xs_some h
        obtain ⟨N, f, e1, e2, e3⟩ := xaI_some h0
        subst e3
        refine px_bald rfl e1 rfl e2 rfl ?_
        refine px_icne rfl rfl rfl (fun hc => ?_) (fun hc => ?_)
        · replace h := (if_neg hc).symm.trans h
          refine px_ic (k := 0) rfl rfl rfl ?_
          refine px_forget (n := 5) (lv' := [_, _, _, _, _, _, _]) rfl ?_
          exact (r_M_find_79 @hk3 @ih h :)
        · replace h := (if_pos hc).symm.trans h
          refine px_ic (k := 1) rfl rfl rfl ?_
          refine px_goto rfl rfl rfl ?_
          refine px_forget (n := 5) (lv' := [_, _, _, _, _, _, _]) rfl ?_
          exact (r_M_find_79 @hk3 @ih h :)
def f_M_find_30 (F : Nat) (k3 : Nat → Nat → Int32 → Int32 → Int32 → px_H → Option (Int32 × px_H)) (a0 : Nat) (a1 : Nat) (a2 : Int32) (a3 : Int32) (a4 : Int32) (s0 : Int32) (ph : px_H) : Option (Int32 × px_H) :=
  f_M_find_35 F k3 F a0 a1 a2 a3 a4 s0 (nI 0) ph
theorem r_M_find_30 {l : Launch} {g : px_G} {d F : Nat} {k3 : Nat → Nat → Int32 → Int32 → Int32 → px_H → Option (Int32 × px_H)} (hk3 : ∀ {a0 : Nat} {a1 : Nat} {a2 : Int32} {a3 : Int32} {a4 : Int32} {ph : px_H} {r : Int32} {ph' : px_H}, k3 a0 a1 a2 a3 a4 ph = some (r, ph') → PW l g (d + 0) m_M_find 3 [.ref a0, .ref a1, .int a2, .int a3, .int a4, px_u, px_u] [] ph (px_qI r ph')) {a0 : Nat} {a1 : Nat} {a2 : Int32} {a3 : Int32} {a4 : Int32} {s0 : Int32} {ph : px_H} {r : Int32} {ph' : px_H} (h : f_M_find_30 F k3 a0 a1 a2 a3 a4 s0 ph = some (r, ph')) : PW l g (d + 0) m_M_find 30 [.ref a0, .ref a1, .int a2, .int a3, .int a4, px_u, px_u] [.int s0] ph (px_qI r ph') := by
  unfold f_M_find_30 at h
  refine px_st (lv' := [_, _, _, _, _, _, _]) rfl rfl rfl rfl rfl rfl rfl ?_
  refine px_ic (k := 0) rfl rfl rfl ?_
  refine px_st (lv' := [_, _, _, _, _, _, _]) rfl rfl rfl rfl rfl rfl rfl ?_
  exact (r_M_find_35 @hk3 _ h :)
def f_M_find_3 (F : Nat) : Nat → Nat → Nat → Int32 → Int32 → Int32 → px_H → Option (Int32 × px_H)
  | 0, _, _, _, _, _, _ => none
  | n + 1, a0, a1, a2, a3, a4, ph =>
    (xgI ph 12 20 a0).bind fun t1 =>
    if t1 ≤ a4 then
      f_M_find_101 F ph
    else
      (xgR ph 12 22 a0).bind fun t2 =>
      (xaI ph 1 t2 a4).bind fun t3 =>
      if t3 = (a3 - a2) then
        f_M_find_30 F (f_M_find_3 F n) a0 a1 a2 a3 a4 (nI 1) ph
      else
        f_M_find_30 F (f_M_find_3 F n) a0 a1 a2 a3 a4 (nI 0) ph
theorem r_M_find_3 {l : Launch} {g : px_G} {d F : Nat} : ∀ (n : Nat) {a0 : Nat} {a1 : Nat} {a2 : Int32} {a3 : Int32} {a4 : Int32} {ph : px_H} {r : Int32} {ph' : px_H}, f_M_find_3 F n a0 a1 a2 a3 a4 ph = some (r, ph') → PW l g (d + 0) m_M_find 3 [.ref a0, .ref a1, .int a2, .int a3, .int a4, px_u, px_u] [] ph (px_qI r ph') := by
  intro n
  induction n with
  | zero => intro _ _ _ _ _ _ _ _ h; cases h
  | succ n ih =>
    intro a0 a1 a2 a3 a4 ph r ph' h
    unfold f_M_find_3 at h
    refine px_ld rfl rfl rfl rfl rfl ?_
    refine px_ld rfl rfl rfl rfl rfl ?_
    obtain ⟨t1, h0, h⟩ := xs_some h
    obtain ⟨fs, e1, e2⟩ := xgI_some h0
    refine px_get rfl e1 e2 rfl ?_
    refine px_icge rfl rfl rfl (fun hc => ?_) (fun hc => ?_)
    · replace h := (if_pos hc).symm.trans h
      refine px_forget (n := 0) (lv' := [_, _, _, _, _, _, _]) rfl ?_
      refine px_forget (n := 1) (lv' := [_, _, _, _, _, _, _]) rfl ?_
      refine px_forget (n := 2) (lv' := [_, _, _, _, _, _, _]) rfl ?_
      refine px_forget (n := 3) (lv' := [_, _, _, _, _, _, _]) rfl ?_
      refine px_forget (n := 4) (lv' := [_, _, _, _, _, _, _]) rfl ?_
      exact (r_M_find_101 h :)
    · replace h := (if_neg hc).symm.trans h
      refine px_ld rfl rfl rfl rfl rfl ?_
      obtain ⟨t2, h0, h⟩ := xs_some h
      obtain ⟨fs, e1, e2⟩ := xgR_some h0
      refine px_get rfl e1 e2 rfl ?_
      refine px_ld rfl rfl rfl rfl rfl ?_
      obtain ⟨t3, h0, h⟩ := xs_some h
      obtain ⟨N, f, e1, e2, e3⟩ := xaI_some h0
      subst e3
      refine px_iald rfl e1 rfl e2 rfl ?_
      refine px_ld rfl rfl rfl rfl rfl ?_
      refine px_ld rfl rfl rfl rfl rfl ?_
      refine px_alu rfl rfl rfl ?_
      refine px_icne rfl rfl rfl (fun hc => ?_) (fun hc => ?_)
      · replace h := (if_neg hc).symm.trans h
        refine px_ic (k := 0) rfl rfl rfl ?_
        exact (r_M_find_30 @ih h :)
      · replace h := (if_pos hc).symm.trans h
        refine px_ic (k := 1) rfl rfl rfl ?_
        refine px_goto rfl rfl rfl ?_
        exact (r_M_find_30 @ih h :)
def f_M_find (F : Nat) (a0 : Nat) (a1 : Nat) (a2 : Int32) (a3 : Int32) (ph : px_H) : Option (Int32 × px_H) :=
  f_M_find_3 F F a0 a1 a2 a3 (nI 0) ph
theorem r_M_find {l : Launch} {g : px_G} {d F : Nat} {a0 : Nat} {a1 : Nat} {a2 : Int32} {a3 : Int32} {ph : px_H} {r : Int32} {ph' : px_H} (h : f_M_find F a0 a1 a2 a3 ph = some (r, ph')) : PW l g (d + 0) m_M_find 0 [.ref a0, .ref a1, .int a2, .int a3, px_u, px_u, px_u] [] ph (px_qI r ph') := by
  unfold f_M_find at h
  refine px_ic (k := 0) rfl rfl rfl ?_
  refine px_st (lv' := [_, _, _, _, _, _, _]) rfl rfl rfl rfl rfl rfl rfl ?_
  exact (r_M_find_3 _ h :)
def f_M_entered_73 (F : Nat) (a0 : Nat) (a4 : Int32) (ph : px_H) : Option (Int32 × px_H) :=
  (xgR ph 12 23 a0).bind fun t1 =>
  (xsI ph 1 t1 a4 (nI 0)).bind fun ph2 =>
  (xgR ph2 12 28 a0).bind fun t3 =>
  (xsI ph2 3 t3 a4 ((nI 0) &&& 1)).bind fun ph4 =>
  (xgR ph4 12 73 a0).bind fun t5 =>
  (xsI ph4 1 t5 a4 (nI 0)).bind fun ph6 =>
  (xgR ph6 12 24 a0).bind fun t7 =>
  (xsI ph6 1 t7 a4 (Int32.ofInt (-1))).bind fun ph8 =>
  (xgR ph8 12 30 a0).bind fun t9 =>
  (xsJ ph8 2 t9 a4 (lN 0)).bind fun ph10 =>
  (xgI ph10 12 20 a0).bind fun t11 =>
  (xpI ph10 12 20 a0 (t11 + (nI 1))).bind fun ph12 =>
  some (a4, ph12)
theorem r_M_entered_73 {l : Launch} {g : px_G} {d F : Nat} {a0 : Nat} {a4 : Int32} {ph : px_H} {r : Int32} {ph' : px_H} (h : f_M_entered_73 F a0 a4 ph = some (r, ph')) : PW l g (d + 1) m_M_entered 73 [.ref a0, px_u, px_u, px_u, .int a4, px_u] [] ph (px_qI r ph') := by
  unfold f_M_entered_73 at h
  refine px_ld rfl rfl rfl rfl rfl ?_
  obtain ⟨t1, h0, h⟩ := xs_some h
  obtain ⟨fs, e1, e2⟩ := xgR_some h0
  refine px_get rfl e1 e2 rfl ?_
  refine px_ld rfl rfl rfl rfl rfl ?_
  refine px_ic (k := 0) rfl rfl rfl ?_
  obtain ⟨ph2, h0, h⟩ := xs_some h
  obtain ⟨N, f, e1, e2, e3⟩ := xsI_some h0
  subst e3
  refine px_iast rfl e1 rfl e2 rfl ?_
  refine px_ld rfl rfl rfl rfl rfl ?_
  obtain ⟨t3, h0, h⟩ := xs_some h
  obtain ⟨fs, e1, e2⟩ := xgR_some h0
  refine px_get rfl e1 e2 rfl ?_
  refine px_ld rfl rfl rfl rfl rfl ?_
  refine px_ic (k := 0) rfl rfl rfl ?_
  obtain ⟨ph4, h0, h⟩ := xs_some h
  obtain ⟨N, f, e1, e2, e3⟩ := xsI_some h0
  subst e3
  refine px_zast rfl e1 rfl e2 rfl ?_
  refine px_ld rfl rfl rfl rfl rfl ?_
  obtain ⟨t5, h0, h⟩ := xs_some h
  obtain ⟨fs, e1, e2⟩ := xgR_some h0
  refine px_get rfl e1 e2 rfl ?_
  refine px_ld rfl rfl rfl rfl rfl ?_
  refine px_ic (k := 0) rfl rfl rfl ?_
  obtain ⟨ph6, h0, h⟩ := xs_some h
  obtain ⟨N, f, e1, e2, e3⟩ := xsI_some h0
  subst e3
  refine px_iast rfl e1 rfl e2 rfl ?_
  refine px_ld rfl rfl rfl rfl rfl ?_
  obtain ⟨t7, h0, h⟩ := xs_some h
  obtain ⟨fs, e1, e2⟩ := xgR_some h0
  refine px_get rfl e1 e2 rfl ?_
  refine px_ld rfl rfl rfl rfl rfl ?_
  refine px_alu rfl rfl rfl ?_
  obtain ⟨ph8, h0, h⟩ := xs_some h
  obtain ⟨N, f, e1, e2, e3⟩ := xsI_some h0
  subst e3
  refine px_iast rfl e1 rfl e2 rfl ?_
  refine px_ld rfl rfl rfl rfl rfl ?_
  obtain ⟨t9, h0, h⟩ := xs_some h
  obtain ⟨fs, e1, e2⟩ := xgR_some h0
  refine px_get rfl e1 e2 rfl ?_
  refine px_ld rfl rfl rfl rfl rfl ?_
  refine px_alu rfl rfl rfl ?_
  obtain ⟨ph10, h0, h⟩ := xs_some h
  obtain ⟨N, f, e1, e2, e3⟩ := xsJ_some h0
  subst e3
  refine px_last rfl e1 rfl e2 rfl ?_
  refine px_ld rfl rfl rfl rfl rfl ?_
  refine px_alu rfl rfl rfl ?_
  obtain ⟨t11, h0, h⟩ := xs_some h
  obtain ⟨fs, e1, e2⟩ := xgI_some h0
  refine px_get rfl e1 e2 rfl ?_
  refine px_ic (k := 1) rfl rfl rfl ?_
  refine px_alu rfl rfl rfl ?_
  obtain ⟨ph12, h0, h⟩ := xs_some h
  obtain ⟨fs, e1, e2, e3⟩ := xpI_some h0
  subst e3
  refine px_put rfl e1 e2 trivial rfl ?_
  refine px_ld rfl rfl rfl rfl rfl ?_
  cases h
  exact px_iret rfl (Or.inl rfl) rfl ⟨rfl, rfl⟩
def f_M_entered_36 (F : Nat) : Nat → Nat → Nat → Int32 → Int32 → Int32 → px_H → Option (Int32 × px_H)
  | 0, _, _, _, _, _, _ => none
  | n + 1, a0, a1, a2, a4, a5, ph =>
    (xgR ph 12 22 a0).bind fun t1 =>
    (xaI ph 1 t1 a4).bind fun t2 =>
    if t2 ≤ a5 then
      f_M_entered_73 F a0 a4 ph
    else
      (xgR ph 12 21 a0).bind fun t3 =>
      (xaI ph 0 a1 (a2 + a5)).bind fun t4 =>
      (xsI ph 0 t3 (((nI 20) * a4) + a5) (t4.toInt8.toInt32)).bind fun ph5 =>
      f_M_entered_36 F n a0 a1 a2 a4 (a5 + nI 1) ph5
theorem r_M_entered_36 {l : Launch} {g : px_G} {d F : Nat} : ∀ (n : Nat) {a0 : Nat} {a1 : Nat} {a2 : Int32} {a4 : Int32} {a5 : Int32} {ph : px_H} {r : Int32} {ph' : px_H}, f_M_entered_36 F n a0 a1 a2 a4 a5 ph = some (r, ph') → PW l g (d + 1) m_M_entered 36 [.ref a0, .ref a1, .int a2, px_u, .int a4, .int a5] [] ph (px_qI r ph') := by
  intro n
  induction n with
  | zero => intro _ _ _ _ _ _ _ _ h; cases h
  | succ n ih =>
    intro a0 a1 a2 a4 a5 ph r ph' h
    unfold f_M_entered_36 at h
    refine px_ld rfl rfl rfl rfl rfl ?_
    refine px_ld rfl rfl rfl rfl rfl ?_
    obtain ⟨t1, h0, h⟩ := xs_some h
    obtain ⟨fs, e1, e2⟩ := xgR_some h0
    refine px_get rfl e1 e2 rfl ?_
    refine px_ld rfl rfl rfl rfl rfl ?_
    obtain ⟨t2, h0, h⟩ := xs_some h
    obtain ⟨N, f, e1, e2, e3⟩ := xaI_some h0
    subst e3
    refine px_iald rfl e1 rfl e2 rfl ?_
    refine px_icge rfl (by decide) rfl (fun hc => ?_) (fun hc => ?_)
    · replace h := (if_pos hc).symm.trans h
      refine px_forget (n := 1) (lv' := [_, _, _, _, _, _]) rfl ?_
      refine px_forget (n := 2) (lv' := [_, _, _, _, _, _]) rfl ?_
      refine px_forget (n := 5) (lv' := [_, _, _, _, _, _]) rfl ?_
      exact (r_M_entered_73 h :)
    · replace h := (if_neg hc).symm.trans h
      refine px_ld rfl rfl rfl rfl rfl ?_
      obtain ⟨t3, h0, h⟩ := xs_some h
      obtain ⟨fs, e1, e2⟩ := xgR_some h0
      refine px_get rfl e1 e2 rfl ?_
      refine px_ic (k := 20) rfl rfl rfl ?_
      refine px_ld rfl rfl rfl rfl rfl ?_
      refine px_alu rfl rfl rfl ?_
      refine px_ld rfl rfl rfl rfl rfl ?_
      refine px_alu rfl rfl rfl ?_
      refine px_ld rfl rfl rfl rfl rfl ?_
      refine px_ld rfl rfl rfl rfl rfl ?_
      refine px_ld rfl rfl rfl rfl rfl ?_
      refine px_alu rfl rfl rfl ?_
      obtain ⟨t4, h0, h⟩ := xs_some h
      obtain ⟨N, f, e1, e2, e3⟩ := xaI_some h0
      subst e3
      refine px_bald rfl e1 rfl e2 rfl ?_
      obtain ⟨ph5, h0, h⟩ := xs_some h
      obtain ⟨N, f, e1, e2, e3⟩ := xsI_some h0
      subst e3
      refine px_bast rfl e1 rfl e2 rfl ?_
      refine px_iinc (lv' := [_, _, _, _, _, _]) rfl rfl rfl rfl rfl rfl ?_
      refine px_goto rfl (by decide) rfl ?_
      exact (ih h :)
def f_M_entered (F : Nat) (a0 : Nat) (a1 : Nat) (a2 : Int32) (a3 : Int32) (ph : px_H) : Option (Int32 × px_H) :=
  (xo ph 12 a0).bind fun _ =>
  xb (f_M_find F a0 a1 a2 a3 ph) fun t1 ph2 =>
  if t1 < 0 then
    (xgI ph2 12 20 a0).bind fun t3 =>
    (xgR ph2 12 22 a0).bind fun t4 =>
    (xsI ph2 1 t4 t3 (a3 - a2)).bind fun ph5 =>
    f_M_entered_36 F F a0 a1 a2 t3 (nI 0) ph5
  else
    some (t1, ph2)
theorem r_M_entered {l : Launch} {g : px_G} {d F : Nat} {a0 : Nat} {a1 : Nat} {a2 : Int32} {a3 : Int32} {ph : px_H} {r : Int32} {ph' : px_H} (h : f_M_entered F a0 a1 a2 a3 ph = some (r, ph')) : PW l g (d + 1) m_M_entered 0 [.ref a0, .ref a1, .int a2, .int a3, px_u, px_u] [] ph (px_qI r ph') := by
  unfold f_M_entered at h
  refine px_ld rfl rfl rfl rfl rfl ?_
  refine px_ld rfl rfl rfl rfl rfl ?_
  refine px_ld rfl rfl rfl rfl rfl ?_
  refine px_ld rfl rfl rfl rfl rfl ?_
  obtain ⟨fs, h0, h⟩ := xs_some h
  have e1 := xo_some h0
  obtain ⟨t1, ph2, h0, h⟩ := xb_some h
  refine px_cV3 rfl rfl e1 rfl rfl rfl rfl rfl rfl rfl (r_M_find h0 :) (fun _ _ q => nomatch q.2) (fun r ph' q => ?_)
  obtain ⟨rfl, q⟩ := q
  cases q
  refine px_st (lv' := [_, _, _, _, _, _]) rfl rfl rfl rfl rfl rfl rfl ?_
  refine px_ld rfl rfl rfl rfl rfl ?_
  refine px_iflt rfl (by decide) rfl (fun hc => ?_) (fun hc => ?_)
  · replace h := (if_pos hc).symm.trans h
    refine px_ld rfl rfl rfl rfl rfl ?_
    obtain ⟨t3, h0, h⟩ := xs_some h
    obtain ⟨fs, e1, e2⟩ := xgI_some h0
    refine px_get rfl e1 e2 rfl ?_
    refine px_st (lv' := [_, _, _, _, _, _]) rfl rfl rfl rfl rfl rfl rfl ?_
    refine px_ld rfl rfl rfl rfl rfl ?_
    obtain ⟨t4, h0, h⟩ := xs_some h
    obtain ⟨fs, e1, e2⟩ := xgR_some h0
    refine px_get rfl e1 e2 rfl ?_
    refine px_ld rfl rfl rfl rfl rfl ?_
    refine px_ld rfl rfl rfl rfl rfl ?_
    refine px_ld rfl rfl rfl rfl rfl ?_
    refine px_alu rfl rfl rfl ?_
    obtain ⟨ph5, h0, h⟩ := xs_some h
    obtain ⟨N, f, e1, e2, e3⟩ := xsI_some h0
    subst e3
    refine px_iast rfl e1 rfl e2 rfl ?_
    refine px_ic (k := 0) rfl rfl rfl ?_
    refine px_st (lv' := [_, _, _, _, _, _]) rfl rfl rfl rfl rfl rfl rfl ?_
    refine px_forget (n := 3) (lv' := [_, _, _, _, _, _]) rfl ?_
    exact (r_M_entered_36 _ h :)
  · replace h := (if_neg hc).symm.trans h
    refine px_ld rfl rfl rfl rfl rfl ?_
    cases h
    exact px_iret rfl (Or.inl rfl) rfl ⟨rfl, rfl⟩
def f_M_tellNames_126 (F : Nat) (ph : px_H) : Option (Unit × px_H) :=
  some ((), ph)
theorem r_M_tellNames_126 {l : Launch} {g : px_G} {d F : Nat} {ph : px_H} {r : Unit} {ph' : px_H} (h : f_M_tellNames_126 F ph = some (r, ph')) : PW l g (d + 2) m_M_tellNames 126 [px_u, px_u, px_u] [] ph (px_qV r ph') := by
  unfold f_M_tellNames_126 at h
  cases h
  exact px_vret rfl rfl rfl ⟨rfl, rfl⟩
def f_M_tellNames_81 (F : Nat) : Nat → Nat → Int32 → px_H → Option (Unit × px_H)
  | 0, _, _, _ => none
  | n + 1, a0, a1, ph =>
    (xgI ph 12 32 a0).bind fun t1 =>
    if t1 ≤ a1 then
      f_M_tellNames_126 F ph
    else
      (xgR ph 12 34 a0).bind fun t2 =>
      (xgR ph 12 36 a0).bind fun t3 =>
      (xaI ph 1 t3 a1).bind fun t4 =>
      (xo ph 12 a0).bind fun _ =>
      xb (f_M_entered F a0 t2 ((nI 20) * a1) (((nI 20) * a1) + t4) ph) fun t5 ph6 =>
      (xgR ph6 12 28 a0).bind fun t7 =>
      (xsI ph6 3 t7 t5 ((nI 1) &&& 1)).bind fun ph8 =>
      f_M_tellNames_81 F n a0 (a1 + nI 1) ph8
theorem r_M_tellNames_81 {l : Launch} {g : px_G} {d F : Nat} : ∀ (n : Nat) {a0 : Nat} {a1 : Int32} {ph : px_H} {r : Unit} {ph' : px_H}, f_M_tellNames_81 F n a0 a1 ph = some (r, ph') → PW l g (d + 2) m_M_tellNames 81 [.ref a0, .int a1, px_u] [] ph (px_qV r ph') := by
  intro n
  induction n with
  | zero => intro _ _ _ _ _ h; cases h
  | succ n ih =>
    intro a0 a1 ph r ph' h
    unfold f_M_tellNames_81 at h
    refine px_ld rfl rfl rfl rfl rfl ?_
    refine px_ld rfl rfl rfl rfl rfl ?_
    obtain ⟨t1, h0, h⟩ := xs_some h
    obtain ⟨fs, e1, e2⟩ := xgI_some h0
    refine px_get rfl e1 e2 rfl ?_
    refine px_icge rfl (by decide) rfl (fun hc => ?_) (fun hc => ?_)
    · replace h := (if_pos hc).symm.trans h
      refine px_forget (n := 0) (lv' := [_, _, _]) rfl ?_
      refine px_forget (n := 1) (lv' := [_, _, _]) rfl ?_
      exact (r_M_tellNames_126 h :)
    · replace h := (if_neg hc).symm.trans h
      refine px_ld rfl rfl rfl rfl rfl ?_
      refine px_ld rfl rfl rfl rfl rfl ?_
      obtain ⟨t2, h0, h⟩ := xs_some h
      obtain ⟨fs, e1, e2⟩ := xgR_some h0
      refine px_get rfl e1 e2 rfl ?_
      refine px_ic (k := 20) rfl rfl rfl ?_
      refine px_ld rfl rfl rfl rfl rfl ?_
      refine px_alu rfl rfl rfl ?_
      refine px_ic (k := 20) rfl rfl rfl ?_
      refine px_ld rfl rfl rfl rfl rfl ?_
      refine px_alu rfl rfl rfl ?_
      refine px_ld rfl rfl rfl rfl rfl ?_
      obtain ⟨t3, h0, h⟩ := xs_some h
      obtain ⟨fs, e1, e2⟩ := xgR_some h0
      refine px_get rfl e1 e2 rfl ?_
      refine px_ld rfl rfl rfl rfl rfl ?_
      obtain ⟨t4, h0, h⟩ := xs_some h
      obtain ⟨N, f, e1, e2, e3⟩ := xaI_some h0
      subst e3
      refine px_iald rfl e1 rfl e2 rfl ?_
      refine px_alu rfl rfl rfl ?_
      obtain ⟨fs, h0, h⟩ := xs_some h
      have e1 := xo_some h0
      obtain ⟨t5, ph6, h0, h⟩ := xb_some h
      refine px_cV3 rfl rfl e1 rfl rfl rfl rfl rfl rfl rfl (r_M_entered h0 :) (fun _ _ q => nomatch q.2) (fun r ph' q => ?_)
      obtain ⟨rfl, q⟩ := q
      cases q
      refine px_st (lv' := [_, _, _]) rfl rfl rfl rfl rfl rfl rfl ?_
      refine px_ld rfl rfl rfl rfl rfl ?_
      obtain ⟨t7, h0, h⟩ := xs_some h
      obtain ⟨fs, e1, e2⟩ := xgR_some h0
      refine px_get rfl e1 e2 rfl ?_
      refine px_ld rfl rfl rfl rfl rfl ?_
      refine px_ic (k := 1) rfl rfl rfl ?_
      obtain ⟨ph8, h0, h⟩ := xs_some h
      obtain ⟨N, f, e1, e2, e3⟩ := xsI_some h0
      subst e3
      refine px_zast rfl e1 rfl e2 rfl ?_
      refine px_iinc (lv' := [_, _, _]) rfl rfl rfl rfl rfl rfl ?_
      refine px_goto rfl (by decide) rfl ?_
      refine px_forget (n := 2) (lv' := [_, _, _]) rfl ?_
      exact (ih h :)
def f_M_tellNames_79 (F : Nat) (a0 : Nat) (ph : px_H) : Option (Unit × px_H) :=
  f_M_tellNames_81 F F a0 (nI 0) ph
theorem r_M_tellNames_79 {l : Launch} {g : px_G} {d F : Nat} {a0 : Nat} {ph : px_H} {r : Unit} {ph' : px_H} (h : f_M_tellNames_79 F a0 ph = some (r, ph')) : PW l g (d + 2) m_M_tellNames 79 [.ref a0, px_u, px_u] [] ph (px_qV r ph') := by
  unfold f_M_tellNames_79 at h
  refine px_ic (k := 0) rfl rfl rfl ?_
  refine px_st (lv' := [_, _, _]) rfl rfl rfl rfl rfl rfl rfl ?_
  exact (r_M_tellNames_81 _ h :)
def f_M_tellNames_2 (F : Nat) : Nat → Nat → Int32 → px_H → Option (Unit × px_H)
  | 0, _, _, _ => none
  | n + 1, a0, a1, ph =>
    (xgI ph 12 31 a0).bind fun t1 =>
    if t1 ≤ a1 then
      f_M_tellNames_79 F a0 ph
    else
      (xgR ph 12 33 a0).bind fun t2 =>
      (xgR ph 12 35 a0).bind fun t3 =>
      (xaI ph 1 t3 a1).bind fun t4 =>
      (xo ph 12 a0).bind fun _ =>
      xb (f_M_entered F a0 t2 ((nI 20) * a1) (((nI 20) * a1) + t4) ph) fun t5 ph6 =>
      (xgR ph6 12 23 a0).bind fun t7 =>
      (xsI ph6 1 t7 t5 (nI 3)).bind fun ph8 =>
      (xgR ph8 12 30 a0).bind fun t9 =>
      (xgR ph8 12 37 a0).bind fun t10 =>
      (xaJ ph8 2 t10 a1).bind fun t11 =>
      (xsJ ph8 2 t9 t5 t11).bind fun ph12 =>
      (xgR ph12 12 49 a0).bind fun t13 =>
      (xgI ph12 12 48 a0).bind fun t14 =>
      (xsI ph12 1 t13 t14 t5).bind fun ph15 =>
      (xgI ph15 12 48 a0).bind fun t16 =>
      (xpI ph15 12 48 a0 (t16 + (nI 1))).bind fun ph17 =>
      f_M_tellNames_2 F n a0 (a1 + nI 1) ph17
theorem r_M_tellNames_2 {l : Launch} {g : px_G} {d F : Nat} : ∀ (n : Nat) {a0 : Nat} {a1 : Int32} {ph : px_H} {r : Unit} {ph' : px_H}, f_M_tellNames_2 F n a0 a1 ph = some (r, ph') → PW l g (d + 2) m_M_tellNames 2 [.ref a0, .int a1, px_u] [] ph (px_qV r ph') := by
  intro n
  induction n with
  | zero => intro _ _ _ _ _ h; cases h
  | succ n ih =>
    intro a0 a1 ph r ph' h
    unfold f_M_tellNames_2 at h
    refine px_ld rfl rfl rfl rfl rfl ?_
    refine px_ld rfl rfl rfl rfl rfl ?_
    obtain ⟨t1, h0, h⟩ := xs_some h
    obtain ⟨fs, e1, e2⟩ := xgI_some h0
    refine px_get rfl e1 e2 rfl ?_
    refine px_icge rfl (by decide) rfl (fun hc => ?_) (fun hc => ?_)
    · replace h := (if_pos hc).symm.trans h
      refine px_forget (n := 1) (lv' := [_, _, _]) rfl ?_
      exact (r_M_tellNames_79 h :)
    · replace h := (if_neg hc).symm.trans h
      refine px_ld rfl rfl rfl rfl rfl ?_
      refine px_ld rfl rfl rfl rfl rfl ?_
      obtain ⟨t2, h0, h⟩ := xs_some h
      obtain ⟨fs, e1, e2⟩ := xgR_some h0
      refine px_get rfl e1 e2 rfl ?_
      refine px_ic (k := 20) rfl rfl rfl ?_
      refine px_ld rfl rfl rfl rfl rfl ?_
      refine px_alu rfl rfl rfl ?_
      refine px_ic (k := 20) rfl rfl rfl ?_
      refine px_ld rfl rfl rfl rfl rfl ?_
      refine px_alu rfl rfl rfl ?_
      refine px_ld rfl rfl rfl rfl rfl ?_
      obtain ⟨t3, h0, h⟩ := xs_some h
      obtain ⟨fs, e1, e2⟩ := xgR_some h0
      refine px_get rfl e1 e2 rfl ?_
      refine px_ld rfl rfl rfl rfl rfl ?_
      obtain ⟨t4, h0, h⟩ := xs_some h
      obtain ⟨N, f, e1, e2, e3⟩ := xaI_some h0
      subst e3
      refine px_iald rfl e1 rfl e2 rfl ?_
      refine px_alu rfl rfl rfl ?_
      obtain ⟨fs, h0, h⟩ := xs_some h
      have e1 := xo_some h0
      obtain ⟨t5, ph6, h0, h⟩ := xb_some h
      refine px_cV3 rfl rfl e1 rfl rfl rfl rfl rfl rfl rfl (r_M_entered h0 :) (fun _ _ q => nomatch q.2) (fun r ph' q => ?_)
      obtain ⟨rfl, q⟩ := q
      cases q
      refine px_st (lv' := [_, _, _]) rfl rfl rfl rfl rfl rfl rfl ?_
      refine px_ld rfl rfl rfl rfl rfl ?_
      obtain ⟨t7, h0, h⟩ := xs_some h
      obtain ⟨fs, e1, e2⟩ := xgR_some h0
      refine px_get rfl e1 e2 rfl ?_
      refine px_ld rfl rfl rfl rfl rfl ?_
      refine px_ic (k := 3) rfl rfl rfl ?_
      obtain ⟨ph8, h0, h⟩ := xs_some h
      obtain ⟨N, f, e1, e2, e3⟩ := xsI_some h0
      subst e3
      refine px_iast rfl e1 rfl e2 rfl ?_
      refine px_ld rfl rfl rfl rfl rfl ?_
      obtain ⟨t9, h0, h⟩ := xs_some h
      obtain ⟨fs, e1, e2⟩ := xgR_some h0
      refine px_get rfl e1 e2 rfl ?_
      refine px_ld rfl rfl rfl rfl rfl ?_
      refine px_ld rfl rfl rfl rfl rfl ?_
      obtain ⟨t10, h0, h⟩ := xs_some h
      obtain ⟨fs, e1, e2⟩ := xgR_some h0
      refine px_get rfl e1 e2 rfl ?_
      refine px_ld rfl rfl rfl rfl rfl ?_
      obtain ⟨t11, h0, h⟩ := xs_some h
      obtain ⟨N, f, e1, e2, e3⟩ := xaJ_some h0
      subst e3
      refine px_lald rfl e1 rfl e2 rfl ?_
      obtain ⟨ph12, h0, h⟩ := xs_some h
      obtain ⟨N, f, e1, e2, e3⟩ := xsJ_some h0
      subst e3
      refine px_last rfl e1 rfl e2 rfl ?_
      refine px_ld rfl rfl rfl rfl rfl ?_
      obtain ⟨t13, h0, h⟩ := xs_some h
      obtain ⟨fs, e1, e2⟩ := xgR_some h0
      refine px_get rfl e1 e2 rfl ?_
      refine px_ld rfl rfl rfl rfl rfl ?_
      obtain ⟨t14, h0, h⟩ := xs_some h
      obtain ⟨fs, e1, e2⟩ := xgI_some h0
      refine px_get rfl e1 e2 rfl ?_
      refine px_ld rfl rfl rfl rfl rfl ?_
      obtain ⟨ph15, h0, h⟩ := xs_some h
      obtain ⟨N, f, e1, e2, e3⟩ := xsI_some h0
      subst e3
      refine px_iast rfl e1 rfl e2 rfl ?_
      refine px_ld rfl rfl rfl rfl rfl ?_
      refine px_alu rfl rfl rfl ?_
      obtain ⟨t16, h0, h⟩ := xs_some h
      obtain ⟨fs, e1, e2⟩ := xgI_some h0
      refine px_get rfl e1 e2 rfl ?_
      refine px_ic (k := 1) rfl rfl rfl ?_
      refine px_alu rfl rfl rfl ?_
      obtain ⟨ph17, h0, h⟩ := xs_some h
      obtain ⟨fs, e1, e2, e3⟩ := xpI_some h0
      subst e3
      refine px_put rfl e1 e2 trivial rfl ?_
      refine px_iinc (lv' := [_, _, _]) rfl rfl rfl rfl rfl rfl ?_
      refine px_goto rfl (by decide) rfl ?_
      refine px_forget (n := 2) (lv' := [_, _, _]) rfl ?_
      exact (ih h :)
def f_M_tellNames (F : Nat) (a0 : Nat) (ph : px_H) : Option (Unit × px_H) :=
  f_M_tellNames_2 F F a0 (nI 0) ph
theorem r_M_tellNames {l : Launch} {g : px_G} {d F : Nat} {a0 : Nat} {ph : px_H} {r : Unit} {ph' : px_H} (h : f_M_tellNames F a0 ph = some (r, ph')) : PW l g (d + 2) m_M_tellNames 0 [.ref a0, px_u, px_u] [] ph (px_qV r ph') := by
  unfold f_M_tellNames at h
  refine px_ic (k := 0) rfl rfl rfl ?_
  refine px_st (lv' := [_, _, _]) rfl rfl rfl rfl rfl rfl rfl ?_
  exact (r_M_tellNames_2 _ h :)
def f_M_nameAt (F : Nat) (a0 : Nat) (a1 : Int32) (a2 : Int32) (ph : px_H) : Option (Int32 × px_H) :=
  (xo ph 12 a0).bind fun _ =>
  xb (f_M_symbols F a0 a1 ph) fun t1 ph2 =>
  (xo ph2 12 a0).bind fun _ =>
  xb (f_M_linkOf F a0 a1 t1 ph2) fun t3 ph4 =>
  (xo ph4 12 a0).bind fun _ =>
  xb (f_M_beginning F a0 a1 t3.toInt32 ph4) fun t5 ph6 =>
  (xo ph6 12 a0).bind fun _ =>
  xb (f_M_symbol F a0 a1 a2 ph6) fun t7 ph8 =>
  (xo ph8 12 a0).bind fun _ =>
  xb (f_M_num F a0 t7 (nI 4) ph8) fun t9 ph10 =>
  some ((a1 + t5.toInt32) + t9.toInt32, ph10)
theorem r_M_nameAt {l : Launch} {g : px_G} {d F : Nat} {a0 : Nat} {a1 : Int32} {a2 : Int32} {ph : px_H} {r : Int32} {ph' : px_H} (h : f_M_nameAt F a0 a1 a2 ph = some (r, ph')) : PW l g (d + 5) m_M_nameAt 0 [.ref a0, .int a1, .int a2] [] ph (px_qI r ph') := by
  unfold f_M_nameAt at h
  refine px_ld rfl rfl rfl rfl rfl ?_
  refine px_ld rfl rfl rfl rfl rfl ?_
  refine px_ld rfl rfl rfl rfl rfl ?_
  refine px_ld rfl rfl rfl rfl rfl ?_
  refine px_ld rfl rfl rfl rfl rfl ?_
  refine px_ld rfl rfl rfl rfl rfl ?_
  refine px_ld rfl rfl rfl rfl rfl ?_
  obtain ⟨fs, h0, h⟩ := xs_some h
  have e1 := xo_some h0
  obtain ⟨t1, ph2, h0, h⟩ := xb_some h
  refine px_cV1 rfl rfl e1 rfl rfl rfl rfl rfl rfl rfl (r_M_symbols h0 :) (fun _ _ q => nomatch q.2) (fun r ph' q => ?_)
  obtain ⟨rfl, q⟩ := q
  cases q
  obtain ⟨fs, h0, h⟩ := xs_some h
  have e1 := xo_some h0
  obtain ⟨t3, ph4, h0, h⟩ := xb_some h
  refine px_cV2 rfl rfl e1 rfl rfl rfl rfl rfl rfl rfl (r_M_linkOf h0 :) (fun _ _ q => nomatch q.2) (fun r ph' q => ?_)
  obtain ⟨rfl, q⟩ := q
  cases q
  refine px_alu rfl rfl rfl ?_
  obtain ⟨fs, h0, h⟩ := xs_some h
  have e1 := xo_some h0
  obtain ⟨t5, ph6, h0, h⟩ := xb_some h
  refine px_cV2 rfl rfl e1 rfl rfl rfl rfl rfl rfl rfl (r_M_beginning h0 :) (fun _ _ q => nomatch q.2) (fun r ph' q => ?_)
  obtain ⟨rfl, q⟩ := q
  cases q
  refine px_alu rfl rfl rfl ?_
  refine px_alu rfl rfl rfl ?_
  refine px_ld rfl rfl rfl rfl rfl ?_
  refine px_ld rfl rfl rfl rfl rfl ?_
  refine px_ld rfl rfl rfl rfl rfl ?_
  refine px_ld rfl rfl rfl rfl rfl ?_
  obtain ⟨fs, h0, h⟩ := xs_some h
  have e1 := xo_some h0
  obtain ⟨t7, ph8, h0, h⟩ := xb_some h
  refine px_cV2 rfl rfl e1 rfl rfl rfl rfl rfl rfl rfl (r_M_symbol h0 :) (fun _ _ q => nomatch q.2) (fun r ph' q => ?_)
  obtain ⟨rfl, q⟩ := q
  cases q
  refine px_ic (k := 4) rfl rfl rfl ?_
  obtain ⟨fs, h0, h⟩ := xs_some h
  have e1 := xo_some h0
  obtain ⟨t9, ph10, h0, h⟩ := xb_some h
  refine px_cV2 rfl rfl e1 rfl rfl rfl rfl rfl rfl rfl (r_M_num h0 :) (fun _ _ q => nomatch q.2) (fun r ph' q => ?_)
  obtain ⟨rfl, q⟩ := q
  cases q
  refine px_alu rfl rfl rfl ?_
  refine px_alu rfl rfl rfl ?_
  cases h
  exact px_iret rfl (Or.inl rfl) rfl ⟨rfl, rfl⟩
def f_M_nameEnd_22 (F : Nat) (a3 : Int32) (ph : px_H) : Option (Int32 × px_H) :=
  some (a3, ph)
theorem r_M_nameEnd_22 {l : Launch} {g : px_G} {d F : Nat} {a3 : Int32} {ph : px_H} {r : Int32} {ph' : px_H} (h : f_M_nameEnd_22 F a3 ph = some (r, ph')) : PW l g (d + 6) m_M_nameEnd 22 [px_u, px_u, px_u, .int a3] [] ph (px_qI r ph') := by
  unfold f_M_nameEnd_22 at h
  refine px_ld rfl rfl rfl rfl rfl ?_
  cases h
  exact px_iret rfl (Or.inl rfl) rfl ⟨rfl, rfl⟩
def f_M_nameEnd_7 (F : Nat) : Nat → Nat → Int32 → px_H → Option (Int32 × px_H)
  | 0, _, _, _ => none
  | n + 1, a0, a3, ph =>
    (xgR ph 12 6 a0).bind fun t1 =>
    (xaI ph 0 t1 a3).bind fun t2 =>
    if t2 = 0 then
      f_M_nameEnd_22 F a3 ph
    else
      f_M_nameEnd_7 F n a0 (a3 + nI 1) ph
theorem r_M_nameEnd_7 {l : Launch} {g : px_G} {d F : Nat} : ∀ (n : Nat) {a0 : Nat} {a3 : Int32} {ph : px_H} {r : Int32} {ph' : px_H}, f_M_nameEnd_7 F n a0 a3 ph = some (r, ph') → PW l g (d + 6) m_M_nameEnd 7 [.ref a0, px_u, px_u, .int a3] [] ph (px_qI r ph') := by
  intro n
  induction n with
  | zero => intro _ _ _ _ _ h; cases h
  | succ n ih =>
    intro a0 a3 ph r ph' h
    unfold f_M_nameEnd_7 at h
    refine px_ld rfl rfl rfl rfl rfl ?_
    obtain ⟨t1, h0, h⟩ := xs_some h
    obtain ⟨fs, e1, e2⟩ := xgR_some h0
    refine px_get rfl e1 e2 rfl ?_
    refine px_ld rfl rfl rfl rfl rfl ?_
    obtain ⟨t2, h0, h⟩ := xs_some h
    obtain ⟨N, f, e1, e2, e3⟩ := xaI_some h0
    subst e3
    refine px_bald rfl e1 rfl e2 rfl ?_
    refine px_ifeq rfl rfl rfl (fun hc => ?_) (fun hc => ?_)
    · replace h := (if_pos hc).symm.trans h
      refine px_forget (n := 0) (lv' := [_, _, _, _]) rfl ?_
      exact (r_M_nameEnd_22 h :)
    · replace h := (if_neg hc).symm.trans h
      refine px_iinc (lv' := [_, _, _, _]) rfl rfl rfl rfl rfl rfl ?_
      refine px_goto rfl rfl rfl ?_
      exact (ih h :)
def f_M_nameEnd (F : Nat) (a0 : Nat) (a1 : Int32) (a2 : Int32) (ph : px_H) : Option (Int32 × px_H) :=
  (xo ph 12 a0).bind fun _ =>
  xb (f_M_nameAt F a0 a1 a2 ph) fun t1 ph2 =>
  f_M_nameEnd_7 F F a0 t1 ph2
theorem r_M_nameEnd {l : Launch} {g : px_G} {d F : Nat} {a0 : Nat} {a1 : Int32} {a2 : Int32} {ph : px_H} {r : Int32} {ph' : px_H} (h : f_M_nameEnd F a0 a1 a2 ph = some (r, ph')) : PW l g (d + 6) m_M_nameEnd 0 [.ref a0, .int a1, .int a2, px_u] [] ph (px_qI r ph') := by
  unfold f_M_nameEnd at h
  refine px_ld rfl rfl rfl rfl rfl ?_
  refine px_ld rfl rfl rfl rfl rfl ?_
  refine px_ld rfl rfl rfl rfl rfl ?_
  obtain ⟨fs, h0, h⟩ := xs_some h
  have e1 := xo_some h0
  obtain ⟨t1, ph2, h0, h⟩ := xb_some h
  refine px_cV2 rfl rfl e1 rfl rfl rfl rfl rfl rfl rfl (r_M_nameAt h0 :) (fun _ _ q => nomatch q.2) (fun r ph' q => ?_)
  obtain ⟨rfl, q⟩ := q
  cases q
  refine px_st (lv' := [_, _, _, _]) rfl rfl rfl rfl rfl rfl rfl ?_
  refine px_forget (n := 1) (lv' := [_, _, _, _]) rfl ?_
  refine px_forget (n := 2) (lv' := [_, _, _, _]) rfl ?_
  exact (r_M_nameEnd_7 _ h :)
def f_M_nameOf (F : Nat) (a0 : Nat) (a1 : Int32) (a2 : Int32) (ph : px_H) : Option (Int32 × px_H) :=
  (xgR ph 12 6 a0).bind fun t1 =>
  (xo ph 12 a0).bind fun _ =>
  xb (f_M_nameAt F a0 a1 a2 ph) fun t2 ph3 =>
  (xo ph3 12 a0).bind fun _ =>
  xb (f_M_nameEnd F a0 a1 a2 ph3) fun t4 ph5 =>
  (xo ph5 12 a0).bind fun _ =>
  xb (f_M_find F a0 t1 t2 t4 ph5) fun t6 ph7 =>
  some (t6, ph7)
theorem r_M_nameOf {l : Launch} {g : px_G} {d F : Nat} {a0 : Nat} {a1 : Int32} {a2 : Int32} {ph : px_H} {r : Int32} {ph' : px_H} (h : f_M_nameOf F a0 a1 a2 ph = some (r, ph')) : PW l g (d + 7) m_M_nameOf 0 [.ref a0, .int a1, .int a2] [] ph (px_qI r ph') := by
  unfold f_M_nameOf at h
  refine px_ld rfl rfl rfl rfl rfl ?_
  refine px_ld rfl rfl rfl rfl rfl ?_
  obtain ⟨t1, h0, h⟩ := xs_some h
  obtain ⟨fs, e1, e2⟩ := xgR_some h0
  refine px_get rfl e1 e2 rfl ?_
  refine px_ld rfl rfl rfl rfl rfl ?_
  refine px_ld rfl rfl rfl rfl rfl ?_
  refine px_ld rfl rfl rfl rfl rfl ?_
  obtain ⟨fs, h0, h⟩ := xs_some h
  have e1 := xo_some h0
  obtain ⟨t2, ph3, h0, h⟩ := xb_some h
  refine px_cV2 rfl rfl e1 rfl rfl rfl rfl rfl rfl rfl (r_M_nameAt h0 :) (fun _ _ q => nomatch q.2) (fun r ph' q => ?_)
  obtain ⟨rfl, q⟩ := q
  cases q
  refine px_ld rfl rfl rfl rfl rfl ?_
  refine px_ld rfl rfl rfl rfl rfl ?_
  refine px_ld rfl rfl rfl rfl rfl ?_
  obtain ⟨fs, h0, h⟩ := xs_some h
  have e1 := xo_some h0
  obtain ⟨t4, ph5, h0, h⟩ := xb_some h
  refine px_cV2 rfl rfl e1 rfl rfl rfl rfl rfl rfl rfl (r_M_nameEnd h0 :) (fun _ _ q => nomatch q.2) (fun r ph' q => ?_)
  obtain ⟨rfl, q⟩ := q
  cases q
  obtain ⟨fs, h0, h⟩ := xs_some h
  have e1 := xo_some h0
  obtain ⟨t6, ph7, h0, h⟩ := xb_some h
  refine px_cV3 rfl rfl e1 rfl rfl rfl rfl rfl rfl rfl (r_M_find h0 :) (fun _ _ q => nomatch q.2) (fun r ph' q => ?_)
  obtain ⟨rfl, q⟩ := q
  cases q
  cases h
  exact px_iret rfl (Or.inl rfl) rfl ⟨rfl, rfl⟩
def f_M_helps_81 (F : Nat) (ph : px_H) : Option (Int32 × px_H) :=
  some (Int32.ofInt (-1), ph)
theorem r_M_helps_81 {l : Launch} {g : px_G} {d F : Nat} {ph : px_H} {r : Int32} {ph' : px_H} (h : f_M_helps_81 F ph = some (r, ph')) : PW l g (d + 8) m_M_helps 81 [px_u, px_u, px_u, px_u, px_u] [] ph (px_qI r ph') := by
  unfold f_M_helps_81 at h
  refine px_alu rfl rfl rfl ?_
  cases h
  exact px_iret rfl (Or.inl rfl) rfl ⟨rfl, rfl⟩
def f_M_helps_75 (F : Nat) (k9 : Nat → Int32 → Int32 → px_H → Option (Int32 × px_H)) (a0 : Nat) (a2 : Int32) (a3 : Int32) (ph : px_H) : Option (Int32 × px_H) :=
  k9 a0 a2 (a3 + nI 1) ph
theorem r_M_helps_75 {l : Launch} {g : px_G} {d F : Nat} {k9 : Nat → Int32 → Int32 → px_H → Option (Int32 × px_H)} (hk9 : ∀ {a0 : Nat} {a2 : Int32} {a3 : Int32} {ph : px_H} {r : Int32} {ph' : px_H}, k9 a0 a2 a3 ph = some (r, ph') → PW l g (d + 8) m_M_helps 9 [.ref a0, px_u, .int a2, .int a3, px_u] [] ph (px_qI r ph')) {a0 : Nat} {a2 : Int32} {a3 : Int32} {ph : px_H} {r : Int32} {ph' : px_H} (h : f_M_helps_75 F k9 a0 a2 a3 ph = some (r, ph')) : PW l g (d + 8) m_M_helps 75 [.ref a0, px_u, .int a2, .int a3, px_u] [] ph (px_qI r ph') := by
  unfold f_M_helps_75 at h
  refine px_iinc (lv' := [_, _, _, _, _]) rfl rfl rfl rfl rfl rfl ?_
  refine px_goto rfl rfl rfl ?_
  exact (hk9 h :)
def f_M_helps_72 (F : Nat) (a4 : Int32) (ph : px_H) : Option (Int32 × px_H) :=
  some (a4, ph)
theorem r_M_helps_72 {l : Launch} {g : px_G} {d F : Nat} {a4 : Int32} {ph : px_H} {r : Int32} {ph' : px_H} (h : f_M_helps_72 F a4 ph = some (r, ph')) : PW l g (d + 8) m_M_helps 72 [px_u, px_u, px_u, px_u, .int a4] [] ph (px_qI r ph') := by
  unfold f_M_helps_72 at h
  refine px_ld rfl rfl rfl rfl rfl ?_
  cases h
  exact px_iret rfl (Or.inl rfl) rfl ⟨rfl, rfl⟩
def f_M_helps_9 (F : Nat) : Nat → Nat → Int32 → Int32 → px_H → Option (Int32 × px_H)
  | 0, _, _, _, _ => none
  | n + 1, a0, a2, a3, ph =>
    (xo ph 12 a0).bind fun _ =>
    xb (f_M_symbolMany F a0 a2 ph) fun t1 ph2 =>
    if t1 ≤ a3 then
      f_M_helps_81 F ph2
    else
      (xo ph2 12 a0).bind fun _ =>
      xb (f_M_bind F a0 a2 a3 ph2) fun t3 ph4 =>
      if t3 = 0 then
        f_M_helps_75 F (f_M_helps_9 F n) a0 a2 a3 ph4
      else
        (xo ph4 12 a0).bind fun _ =>
        xb (f_M_where F a0 a2 a3 ph4) fun t5 ph6 =>
        if t5 = 0 then
          f_M_helps_75 F (f_M_helps_9 F n) a0 a2 a3 ph6
        else
          (xo ph6 12 a0).bind fun _ =>
          xb (f_M_nameOf F a0 a2 a3 ph6) fun t7 ph8 =>
          if t7 < 0 then
            f_M_helps_75 F (f_M_helps_9 F n) a0 a2 a3 ph8
          else
            (xgR ph8 12 28 a0).bind fun t9 =>
            (xaI ph8 3 t9 t7).bind fun t10 =>
            if t10 = 0 then
              f_M_helps_75 F (f_M_helps_9 F n) a0 a2 a3 ph8
            else
              (xgR ph8 12 23 a0).bind fun t11 =>
              (xaI ph8 1 t11 t7).bind fun t12 =>
              if t12 = 0 then
                f_M_helps_72 F t7 ph8
              else
                f_M_helps_75 F (f_M_helps_9 F n) a0 a2 a3 ph8
theorem r_M_helps_9 {l : Launch} {g : px_G} {d F : Nat} : ∀ (n : Nat) {a0 : Nat} {a2 : Int32} {a3 : Int32} {ph : px_H} {r : Int32} {ph' : px_H}, f_M_helps_9 F n a0 a2 a3 ph = some (r, ph') → PW l g (d + 8) m_M_helps 9 [.ref a0, px_u, .int a2, .int a3, px_u] [] ph (px_qI r ph') := by
  intro n
  induction n with
  | zero => intro _ _ _ _ _ _ h; cases h
  | succ n ih =>
    intro a0 a2 a3 ph r ph' h
    unfold f_M_helps_9 at h
    refine px_ld rfl rfl rfl rfl rfl ?_
    refine px_ld rfl rfl rfl rfl rfl ?_
    refine px_ld rfl rfl rfl rfl rfl ?_
    obtain ⟨fs, h0, h⟩ := xs_some h
    have e1 := xo_some h0
    obtain ⟨t1, ph2, h0, h⟩ := xb_some h
    refine px_cV1 rfl rfl e1 rfl rfl rfl rfl rfl rfl rfl (r_M_symbolMany h0 :) (fun _ _ q => nomatch q.2) (fun r ph' q => ?_)
    obtain ⟨rfl, q⟩ := q
    cases q
    refine px_icge rfl rfl rfl (fun hc => ?_) (fun hc => ?_)
    · replace h := (if_pos hc).symm.trans h
      refine px_forget (n := 0) (lv' := [_, _, _, _, _]) rfl ?_
      refine px_forget (n := 2) (lv' := [_, _, _, _, _]) rfl ?_
      refine px_forget (n := 3) (lv' := [_, _, _, _, _]) rfl ?_
      exact (r_M_helps_81 h :)
    · replace h := (if_neg hc).symm.trans h
      refine px_ld rfl rfl rfl rfl rfl ?_
      refine px_ld rfl rfl rfl rfl rfl ?_
      refine px_ld rfl rfl rfl rfl rfl ?_
      obtain ⟨fs, h0, h⟩ := xs_some h
      have e1 := xo_some h0
      obtain ⟨t3, ph4, h0, h⟩ := xb_some h
      refine px_cV2 rfl rfl e1 rfl rfl rfl rfl rfl rfl rfl (r_M_bind h0 :) (fun _ _ q => nomatch q.2) (fun r ph' q => ?_)
      obtain ⟨rfl, q⟩ := q
      cases q
      refine px_ifeq rfl rfl rfl (fun hc => ?_) (fun hc => ?_)
      · replace h := (if_pos hc).symm.trans h
        exact (r_M_helps_75 @ih h :)
      · replace h := (if_neg hc).symm.trans h
        refine px_ld rfl rfl rfl rfl rfl ?_
        refine px_ld rfl rfl rfl rfl rfl ?_
        refine px_ld rfl rfl rfl rfl rfl ?_
        obtain ⟨fs, h0, h⟩ := xs_some h
        have e1 := xo_some h0
        obtain ⟨t5, ph6, h0, h⟩ := xb_some h
        refine px_cV2 rfl rfl e1 rfl rfl rfl rfl rfl rfl rfl (r_M_where h0 :) (fun _ _ q => nomatch q.2) (fun r ph' q => ?_)
        obtain ⟨rfl, q⟩ := q
        cases q
        refine px_ifne rfl rfl rfl (fun hc => ?_) (fun hc => ?_)
        · replace h := (if_neg hc).symm.trans h
          refine px_ld rfl rfl rfl rfl rfl ?_
          refine px_ld rfl rfl rfl rfl rfl ?_
          refine px_ld rfl rfl rfl rfl rfl ?_
          obtain ⟨fs, h0, h⟩ := xs_some h
          have e1 := xo_some h0
          obtain ⟨t7, ph8, h0, h⟩ := xb_some h
          refine px_cV2 rfl rfl e1 rfl rfl rfl rfl rfl rfl rfl (r_M_nameOf h0 :) (fun _ _ q => nomatch q.2) (fun r ph' q => ?_)
          obtain ⟨rfl, q⟩ := q
          cases q
          refine px_st (lv' := [_, _, _, _, _]) rfl rfl rfl rfl rfl rfl rfl ?_
          refine px_ld rfl rfl rfl rfl rfl ?_
          refine px_iflt rfl rfl rfl (fun hc => ?_) (fun hc => ?_)
          · replace h := (if_pos hc).symm.trans h
            refine px_forget (n := 4) (lv' := [_, _, _, _, _]) rfl ?_
            exact (r_M_helps_75 @ih h :)
          · replace h := (if_neg hc).symm.trans h
            refine px_ld rfl rfl rfl rfl rfl ?_
            obtain ⟨t9, h0, h⟩ := xs_some h
            obtain ⟨fs, e1, e2⟩ := xgR_some h0
            refine px_get rfl e1 e2 rfl ?_
            refine px_ld rfl rfl rfl rfl rfl ?_
            obtain ⟨t10, h0, h⟩ := xs_some h
            obtain ⟨N, f, e1, e2, e3⟩ := xaI_some h0
            subst e3
            refine px_zald rfl e1 rfl e2 rfl ?_
            refine px_ifeq rfl rfl rfl (fun hc => ?_) (fun hc => ?_)
            · replace h := (if_pos hc).symm.trans h
              refine px_forget (n := 4) (lv' := [_, _, _, _, _]) rfl ?_
              exact (r_M_helps_75 @ih h :)
            · replace h := (if_neg hc).symm.trans h
              refine px_ld rfl rfl rfl rfl rfl ?_
              obtain ⟨t11, h0, h⟩ := xs_some h
              obtain ⟨fs, e1, e2⟩ := xgR_some h0
              refine px_get rfl e1 e2 rfl ?_
              refine px_ld rfl rfl rfl rfl rfl ?_
              obtain ⟨t12, h0, h⟩ := xs_some h
              obtain ⟨N, f, e1, e2, e3⟩ := xaI_some h0
              subst e3
              refine px_iald rfl e1 rfl e2 rfl ?_
              refine px_ifne rfl rfl rfl (fun hc => ?_) (fun hc => ?_)
              · replace h := (if_neg hc).symm.trans h
                refine px_forget (n := 4) (lv' := [_, _, _, _, _]) rfl ?_
                exact (r_M_helps_75 @ih h :)
              · replace h := (if_pos hc).symm.trans h
                refine px_forget (n := 0) (lv' := [_, _, _, _, _]) rfl ?_
                refine px_forget (n := 2) (lv' := [_, _, _, _, _]) rfl ?_
                refine px_forget (n := 3) (lv' := [_, _, _, _, _]) rfl ?_
                exact (r_M_helps_72 h :)
        · replace h := (if_pos hc).symm.trans h
          refine px_goto rfl rfl rfl ?_
          exact (r_M_helps_75 @ih h :)
def f_M_helps (F : Nat) (a0 : Nat) (a1 : Int32) (ph : px_H) : Option (Int32 × px_H) :=
  (xgR ph 12 9 a0).bind fun t1 =>
  (xaI ph 1 t1 a1).bind fun t2 =>
  f_M_helps_9 F F a0 t2 (nI 1) ph
theorem r_M_helps {l : Launch} {g : px_G} {d F : Nat} {a0 : Nat} {a1 : Int32} {ph : px_H} {r : Int32} {ph' : px_H} (h : f_M_helps F a0 a1 ph = some (r, ph')) : PW l g (d + 8) m_M_helps 0 [.ref a0, .int a1, px_u, px_u, px_u] [] ph (px_qI r ph') := by
  unfold f_M_helps at h
  refine px_ld rfl rfl rfl rfl rfl ?_
  obtain ⟨t1, h0, h⟩ := xs_some h
  obtain ⟨fs, e1, e2⟩ := xgR_some h0
  refine px_get rfl e1 e2 rfl ?_
  refine px_ld rfl rfl rfl rfl rfl ?_
  obtain ⟨t2, h0, h⟩ := xs_some h
  obtain ⟨N, f, e1, e2, e3⟩ := xaI_some h0
  subst e3
  refine px_iald rfl e1 rfl e2 rfl ?_
  refine px_st (lv' := [_, _, _, _, _]) rfl rfl rfl rfl rfl rfl rfl ?_
  refine px_ic (k := 1) rfl rfl rfl ?_
  refine px_st (lv' := [_, _, _, _, _]) rfl rfl rfl rfl rfl rfl rfl ?_
  refine px_forget (n := 1) (lv' := [_, _, _, _, _]) rfl ?_
  exact (r_M_helps_9 _ h :)
def f_M_object (F : Nat) (a0 : Nat) (a1 : Int32) (ph : px_H) : Option (Int32 × px_H) :=
  (xgR ph 12 9 a0).bind fun t1 =>
  (xgR ph 12 17 a0).bind fun t2 =>
  (xaI ph 1 t2 a1).bind fun t3 =>
  (xaI ph 1 t1 t3).bind fun t4 =>
  some (t4, ph)
theorem r_M_object {l : Launch} {g : px_G} {d F : Nat} {a0 : Nat} {a1 : Int32} {ph : px_H} {r : Int32} {ph' : px_H} (h : f_M_object F a0 a1 ph = some (r, ph')) : PW l g (d + 0) m_M_object 0 [.ref a0, .int a1] [] ph (px_qI r ph') := by
  unfold f_M_object at h
  refine px_ld rfl rfl rfl rfl rfl ?_
  obtain ⟨t1, h0, h⟩ := xs_some h
  obtain ⟨fs, e1, e2⟩ := xgR_some h0
  refine px_get rfl e1 e2 rfl ?_
  refine px_ld rfl rfl rfl rfl rfl ?_
  obtain ⟨t2, h0, h⟩ := xs_some h
  obtain ⟨fs, e1, e2⟩ := xgR_some h0
  refine px_get rfl e1 e2 rfl ?_
  refine px_ld rfl rfl rfl rfl rfl ?_
  obtain ⟨t3, h0, h⟩ := xs_some h
  obtain ⟨N, f, e1, e2, e3⟩ := xaI_some h0
  subst e3
  refine px_iald rfl e1 rfl e2 rfl ?_
  obtain ⟨t4, h0, h⟩ := xs_some h
  obtain ⟨N, f, e1, e2, e3⟩ := xaI_some h0
  subst e3
  refine px_iald rfl e1 rfl e2 rfl ?_
  cases h
  exact px_iret rfl (Or.inl rfl) rfl ⟨rfl, rfl⟩
def f_M_isAgain_138 (F : Nat) (a0 : Nat) (a3 : Int32) (a4 : Int32) (ph : px_H) : Option (Int32 × px_H) :=
  (xgR ph 12 71 a0).bind fun t1 =>
  (xgI ph 12 70 a0).bind fun t2 =>
  (xsI ph 1 t1 t2 a3).bind fun ph3 =>
  (xgR ph3 12 72 a0).bind fun t4 =>
  (xgI ph3 12 70 a0).bind fun t5 =>
  (xsI ph3 1 t4 t5 a4).bind fun ph6 =>
  (xgI ph6 12 70 a0).bind fun t7 =>
  (xpI ph6 12 70 a0 (t7 + (nI 1))).bind fun ph8 =>
  some (nI 0, ph8)
theorem r_M_isAgain_138 {l : Launch} {g : px_G} {d F : Nat} {a0 : Nat} {a3 : Int32} {a4 : Int32} {ph : px_H} {r : Int32} {ph' : px_H} (h : f_M_isAgain_138 F a0 a3 a4 ph = some (r, ph')) : PW l g (d + 7) m_M_isAgain 138 [.ref a0, px_u, px_u, .int a3, .int a4, px_u, px_u, px_u] [] ph (px_qI r ph') := by
  unfold f_M_isAgain_138 at h
  refine px_ld rfl rfl rfl rfl rfl ?_
  obtain ⟨t1, h0, h⟩ := xs_some h
  obtain ⟨fs, e1, e2⟩ := xgR_some h0
  refine px_get rfl e1 e2 rfl ?_
  refine px_ld rfl rfl rfl rfl rfl ?_
  obtain ⟨t2, h0, h⟩ := xs_some h
  obtain ⟨fs, e1, e2⟩ := xgI_some h0
  refine px_get rfl e1 e2 rfl ?_
  refine px_ld rfl rfl rfl rfl rfl ?_
  obtain ⟨ph3, h0, h⟩ := xs_some h
  obtain ⟨N, f, e1, e2, e3⟩ := xsI_some h0
  subst e3
  refine px_iast rfl e1 rfl e2 rfl ?_
  refine px_ld rfl rfl rfl rfl rfl ?_
  obtain ⟨t4, h0, h⟩ := xs_some h
  obtain ⟨fs, e1, e2⟩ := xgR_some h0
  refine px_get rfl e1 e2 rfl ?_
  refine px_ld rfl rfl rfl rfl rfl ?_
  obtain ⟨t5, h0, h⟩ := xs_some h
  obtain ⟨fs, e1, e2⟩ := xgI_some h0
  refine px_get rfl e1 e2 rfl ?_
  refine px_ld rfl rfl rfl rfl rfl ?_
  obtain ⟨ph6, h0, h⟩ := xs_some h
  obtain ⟨N, f, e1, e2, e3⟩ := xsI_some h0
  subst e3
  refine px_iast rfl e1 rfl e2 rfl ?_
  refine px_ld rfl rfl rfl rfl rfl ?_
  refine px_alu rfl rfl rfl ?_
  obtain ⟨t7, h0, h⟩ := xs_some h
  obtain ⟨fs, e1, e2⟩ := xgI_some h0
  refine px_get rfl e1 e2 rfl ?_
  refine px_ic (k := 1) rfl rfl rfl ?_
  refine px_alu rfl rfl rfl ?_
  obtain ⟨ph8, h0, h⟩ := xs_some h
  obtain ⟨fs, e1, e2, e3⟩ := xpI_some h0
  subst e3
  refine px_put rfl e1 e2 trivial rfl ?_
  refine px_ic (k := 0) rfl rfl rfl ?_
  cases h
  exact px_iret rfl (Or.inr ⟨rfl, Or.inl rfl⟩) rfl ⟨rfl, rfl⟩
def f_M_isAgain_130 (F : Nat) (ph : px_H) : Option (Int32 × px_H) :=
  some (nI 1, ph)
theorem r_M_isAgain_130 {l : Launch} {g : px_G} {d F : Nat} {ph : px_H} {r : Int32} {ph' : px_H} (h : f_M_isAgain_130 F ph = some (r, ph')) : PW l g (d + 7) m_M_isAgain 130 [px_u, px_u, px_u, px_u, px_u, px_u, px_u, px_u] [] ph (px_qI r ph') := by
  unfold f_M_isAgain_130 at h
  refine px_ic (k := 1) rfl rfl rfl ?_
  cases h
  exact px_iret rfl (Or.inr ⟨rfl, Or.inr rfl⟩) rfl ⟨rfl, rfl⟩
def f_M_isAgain_125 (F : Nat) (k30 : Nat → Int32 → Int32 → Int32 → px_H → Option (Int32 × px_H)) (a0 : Nat) (a3 : Int32) (a4 : Int32) (a5 : Int32) (a6 : Int32) (ph : px_H) : Option (Int32 × px_H) :=
  if a6 = 0 then
    k30 a0 a3 a4 (a5 + nI 1) ph
  else
    f_M_isAgain_130 F ph
theorem r_M_isAgain_125 {l : Launch} {g : px_G} {d F : Nat} {k30 : Nat → Int32 → Int32 → Int32 → px_H → Option (Int32 × px_H)} (hk30 : ∀ {a0 : Nat} {a3 : Int32} {a4 : Int32} {a5 : Int32} {ph : px_H} {r : Int32} {ph' : px_H}, k30 a0 a3 a4 a5 ph = some (r, ph') → PW l g (d + 7) m_M_isAgain 30 [.ref a0, px_u, px_u, .int a3, .int a4, .int a5, px_u, px_u] [] ph (px_qI r ph')) {a0 : Nat} {a3 : Int32} {a4 : Int32} {a5 : Int32} {a6 : Int32} {ph : px_H} {r : Int32} {ph' : px_H} (h : f_M_isAgain_125 F k30 a0 a3 a4 a5 a6 ph = some (r, ph')) : PW l g (d + 7) m_M_isAgain 125 [.ref a0, px_u, px_u, .int a3, .int a4, .int a5, .int a6, px_u] [] ph (px_qI r ph') := by
  unfold f_M_isAgain_125 at h
  refine px_ld rfl rfl rfl rfl rfl ?_
  refine px_ifeq rfl (by decide) rfl (fun hc => ?_) (fun hc => ?_)
  · replace h := (if_pos hc).symm.trans h
    refine px_iinc (lv' := [_, _, _, _, _, _, _, _]) rfl rfl rfl rfl rfl rfl ?_
    refine px_goto rfl (by decide) rfl ?_
    refine px_forget (n := 6) (lv' := [_, _, _, _, _, _, _, _]) rfl ?_
    exact (hk30 h :)
  · replace h := (if_neg hc).symm.trans h
    refine px_forget (n := 0) (lv' := [_, _, _, _, _, _, _, _]) rfl ?_
    refine px_forget (n := 3) (lv' := [_, _, _, _, _, _, _, _]) rfl ?_
    refine px_forget (n := 4) (lv' := [_, _, _, _, _, _, _, _]) rfl ?_
    refine px_forget (n := 5) (lv' := [_, _, _, _, _, _, _, _]) rfl ?_
    refine px_forget (n := 6) (lv' := [_, _, _, _, _, _, _, _]) rfl ?_
    exact (r_M_isAgain_130 h :)
def f_M_isAgain_117 (F : Nat) (k30 : Nat → Int32 → Int32 → Int32 → px_H → Option (Int32 × px_H)) (k71 : Nat → Int32 → Int32 → Int32 → Int32 → Int32 → px_H → Option (Int32 × px_H)) (a0 : Nat) (a3 : Int32) (a4 : Int32) (a5 : Int32) (a7 : Int32) (s0 : Int32) (ph : px_H) : Option (Int32 × px_H) :=
  k71 a0 a3 a4 a5 s0 (a7 + nI 1) ph
theorem r_M_isAgain_117 {l : Launch} {g : px_G} {d F : Nat} {k30 : Nat → Int32 → Int32 → Int32 → px_H → Option (Int32 × px_H)} (hk30 : ∀ {a0 : Nat} {a3 : Int32} {a4 : Int32} {a5 : Int32} {ph : px_H} {r : Int32} {ph' : px_H}, k30 a0 a3 a4 a5 ph = some (r, ph') → PW l g (d + 7) m_M_isAgain 30 [.ref a0, px_u, px_u, .int a3, .int a4, .int a5, px_u, px_u] [] ph (px_qI r ph')) {k71 : Nat → Int32 → Int32 → Int32 → Int32 → Int32 → px_H → Option (Int32 × px_H)} (hk71 : ∀ {a0 : Nat} {a3 : Int32} {a4 : Int32} {a5 : Int32} {a6 : Int32} {a7 : Int32} {ph : px_H} {r : Int32} {ph' : px_H}, k71 a0 a3 a4 a5 a6 a7 ph = some (r, ph') → PW l g (d + 7) m_M_isAgain 71 [.ref a0, px_u, px_u, .int a3, .int a4, .int a5, .int a6, .int a7] [] ph (px_qI r ph')) {a0 : Nat} {a3 : Int32} {a4 : Int32} {a5 : Int32} {a7 : Int32} {s0 : Int32} {ph : px_H} {r : Int32} {ph' : px_H} (h : f_M_isAgain_117 F k30 k71 a0 a3 a4 a5 a7 s0 ph = some (r, ph')) : PW l g (d + 7) m_M_isAgain 117 [.ref a0, px_u, px_u, .int a3, .int a4, .int a5, px_u, .int a7] [.int s0] ph (px_qI r ph') := by
  unfold f_M_isAgain_117 at h
  refine px_st (lv' := [_, _, _, _, _, _, _, _]) rfl rfl rfl rfl rfl rfl rfl ?_
  refine px_iinc (lv' := [_, _, _, _, _, _, _, _]) rfl rfl rfl rfl rfl rfl ?_
  refine px_goto rfl (by decide) rfl ?_
  exact (hk71 h :)
def f_M_isAgain_71 (F : Nat) (k30 : Nat → Int32 → Int32 → Int32 → px_H → Option (Int32 × px_H)) : Nat → Nat → Int32 → Int32 → Int32 → Int32 → Int32 → px_H → Option (Int32 × px_H)
  | 0, _, _, _, _, _, _, _ => none
  | n + 1, a0, a3, a4, a5, a6, a7, ph =>
    if (a4 - a3) ≤ a7 then
      f_M_isAgain_125 F k30 a0 a3 a4 a5 a6 ph
    else
      if a6 = 0 then
        f_M_isAgain_125 F k30 a0 a3 a4 a5 a6 ph
      else
        (xgR ph 12 6 a0).bind fun t1 =>
        (xgR ph 12 71 a0).bind fun t2 =>
        (xaI ph 1 t2 a5).bind fun t3 =>
        (xaI ph 0 t1 (t3 + a7)).bind fun t4 =>
        (xgR ph 12 6 a0).bind fun t5 =>
        (xaI ph 0 t5 (a3 + a7)).bind fun t6 =>
        if t4 = t6 then
          f_M_isAgain_117 F k30 (f_M_isAgain_71 F k30 n) a0 a3 a4 a5 a7 (nI 1) ph
        else
          f_M_isAgain_117 F k30 (f_M_isAgain_71 F k30 n) a0 a3 a4 a5 a7 (nI 0) ph
theorem r_M_isAgain_71 {l : Launch} {g : px_G} {d F : Nat} {k30 : Nat → Int32 → Int32 → Int32 → px_H → Option (Int32 × px_H)} (hk30 : ∀ {a0 : Nat} {a3 : Int32} {a4 : Int32} {a5 : Int32} {ph : px_H} {r : Int32} {ph' : px_H}, k30 a0 a3 a4 a5 ph = some (r, ph') → PW l g (d + 7) m_M_isAgain 30 [.ref a0, px_u, px_u, .int a3, .int a4, .int a5, px_u, px_u] [] ph (px_qI r ph')) : ∀ (n : Nat) {a0 : Nat} {a3 : Int32} {a4 : Int32} {a5 : Int32} {a6 : Int32} {a7 : Int32} {ph : px_H} {r : Int32} {ph' : px_H}, f_M_isAgain_71 F k30 n a0 a3 a4 a5 a6 a7 ph = some (r, ph') → PW l g (d + 7) m_M_isAgain 71 [.ref a0, px_u, px_u, .int a3, .int a4, .int a5, .int a6, .int a7] [] ph (px_qI r ph') := by
  intro n
  induction n with
  | zero => intro _ _ _ _ _ _ _ _ _ h; cases h
  | succ n ih =>
    intro a0 a3 a4 a5 a6 a7 ph r ph' h
    unfold f_M_isAgain_71 at h
    refine px_ld rfl rfl rfl rfl rfl ?_
    refine px_ld rfl rfl rfl rfl rfl ?_
    refine px_ld rfl rfl rfl rfl rfl ?_
    refine px_alu rfl rfl rfl ?_
    refine px_icge rfl (by decide) rfl (fun hc => ?_) (fun hc => ?_)
    · replace h := (if_pos hc).symm.trans h
      refine px_forget (n := 7) (lv' := [_, _, _, _, _, _, _, _]) rfl ?_
      exact (r_M_isAgain_125 @hk30 h :)
    · replace h := (if_neg hc).symm.trans h
      refine px_ld rfl rfl rfl rfl rfl ?_
      refine px_ifeq rfl (by decide) rfl (fun hc => ?_) (fun hc => ?_)
      · replace h := (if_pos hc).symm.trans h
        refine px_forget (n := 7) (lv' := [_, _, _, _, _, _, _, _]) rfl ?_
        exact (r_M_isAgain_125 @hk30 h :)
      · replace h := (if_neg hc).symm.trans h
        refine px_ld rfl rfl rfl rfl rfl ?_
        obtain ⟨t1, h0, h⟩ := xs_some h
        obtain ⟨fs, e1, e2⟩ := xgR_some h0
        refine px_get rfl e1 e2 rfl ?_
        refine px_ld rfl rfl rfl rfl rfl ?_
        obtain ⟨t2, h0, h⟩ := xs_some h
        obtain ⟨fs, e1, e2⟩ := xgR_some h0
        refine px_get rfl e1 e2 rfl ?_
        refine px_ld rfl rfl rfl rfl rfl ?_
        obtain ⟨t3, h0, h⟩ := xs_some h
        obtain ⟨N, f, e1, e2, e3⟩ := xaI_some h0
        subst e3
        refine px_iald rfl e1 rfl e2 rfl ?_
        refine px_ld rfl rfl rfl rfl rfl ?_
        refine px_alu rfl rfl rfl ?_
        obtain ⟨t4, h0, h⟩ := xs_some h
        obtain ⟨N, f, e1, e2, e3⟩ := xaI_some h0
        subst e3
        refine px_bald rfl e1 rfl e2 rfl ?_
        refine px_ld rfl rfl rfl rfl rfl ?_
        obtain ⟨t5, h0, h⟩ := xs_some h
        obtain ⟨fs, e1, e2⟩ := xgR_some h0
        refine px_get rfl e1 e2 rfl ?_
        refine px_ld rfl rfl rfl rfl rfl ?_
        refine px_ld rfl rfl rfl rfl rfl ?_
        refine px_alu rfl rfl rfl ?_
        obtain ⟨t6, h0, h⟩ := xs_some h
        obtain ⟨N, f, e1, e2, e3⟩ := xaI_some h0
        subst e3
        refine px_bald rfl e1 rfl e2 rfl ?_
        refine px_icne rfl (by decide) rfl (fun hc => ?_) (fun hc => ?_)
        · replace h := (if_neg hc).symm.trans h
          refine px_ic (k := 0) rfl rfl rfl ?_
          refine px_forget (n := 6) (lv' := [_, _, _, _, _, _, _, _]) rfl ?_
          exact (r_M_isAgain_117 @hk30 @ih h :)
        · replace h := (if_pos hc).symm.trans h
          refine px_ic (k := 1) rfl rfl rfl ?_
          refine px_goto rfl (by decide) rfl ?_
          refine px_forget (n := 6) (lv' := [_, _, _, _, _, _, _, _]) rfl ?_
          exact (r_M_isAgain_117 @hk30 @ih h :)
def f_M_isAgain_66 (F : Nat) (k30 : Nat → Int32 → Int32 → Int32 → px_H → Option (Int32 × px_H)) (a0 : Nat) (a3 : Int32) (a4 : Int32) (a5 : Int32) (s0 : Int32) (ph : px_H) : Option (Int32 × px_H) :=
  f_M_isAgain_71 F k30 F a0 a3 a4 a5 s0 (nI 0) ph
theorem r_M_isAgain_66 {l : Launch} {g : px_G} {d F : Nat} {k30 : Nat → Int32 → Int32 → Int32 → px_H → Option (Int32 × px_H)} (hk30 : ∀ {a0 : Nat} {a3 : Int32} {a4 : Int32} {a5 : Int32} {ph : px_H} {r : Int32} {ph' : px_H}, k30 a0 a3 a4 a5 ph = some (r, ph') → PW l g (d + 7) m_M_isAgain 30 [.ref a0, px_u, px_u, .int a3, .int a4, .int a5, px_u, px_u] [] ph (px_qI r ph')) {a0 : Nat} {a3 : Int32} {a4 : Int32} {a5 : Int32} {s0 : Int32} {ph : px_H} {r : Int32} {ph' : px_H} (h : f_M_isAgain_66 F k30 a0 a3 a4 a5 s0 ph = some (r, ph')) : PW l g (d + 7) m_M_isAgain 66 [.ref a0, px_u, px_u, .int a3, .int a4, .int a5, px_u, px_u] [.int s0] ph (px_qI r ph') := by
  unfold f_M_isAgain_66 at h
  refine px_st (lv' := [_, _, _, _, _, _, _, _]) rfl rfl rfl rfl rfl rfl rfl ?_
  refine px_ic (k := 0) rfl rfl rfl ?_
  refine px_st (lv' := [_, _, _, _, _, _, _, _]) rfl rfl rfl rfl rfl rfl rfl ?_
  exact (r_M_isAgain_71 @hk30 _ h :)
def f_M_isAgain_30 (F : Nat) : Nat → Nat → Int32 → Int32 → Int32 → px_H → Option (Int32 × px_H)
  | 0, _, _, _, _, _ => none
  | n + 1, a0, a3, a4, a5, ph =>
    (xgI ph 12 70 a0).bind fun t1 =>
    if t1 ≤ a5 then
      f_M_isAgain_138 F a0 a3 a4 ph
    else
      (xgR ph 12 72 a0).bind fun t2 =>
      (xaI ph 1 t2 a5).bind fun t3 =>
      (xgR ph 12 71 a0).bind fun t4 =>
      (xaI ph 1 t4 a5).bind fun t5 =>
      if (t3 - t5) = (a4 - a3) then
        f_M_isAgain_66 F (f_M_isAgain_30 F n) a0 a3 a4 a5 (nI 1) ph
      else
        f_M_isAgain_66 F (f_M_isAgain_30 F n) a0 a3 a4 a5 (nI 0) ph
theorem r_M_isAgain_30 {l : Launch} {g : px_G} {d F : Nat} : ∀ (n : Nat) {a0 : Nat} {a3 : Int32} {a4 : Int32} {a5 : Int32} {ph : px_H} {r : Int32} {ph' : px_H}, f_M_isAgain_30 F n a0 a3 a4 a5 ph = some (r, ph') → PW l g (d + 7) m_M_isAgain 30 [.ref a0, px_u, px_u, .int a3, .int a4, .int a5, px_u, px_u] [] ph (px_qI r ph') := by
  intro n
  induction n with
  | zero => intro _ _ _ _ _ _ _ h; cases h
  | succ n ih =>
    intro a0 a3 a4 a5 ph r ph' h
    unfold f_M_isAgain_30 at h
    refine px_ld rfl rfl rfl rfl rfl ?_
    refine px_ld rfl rfl rfl rfl rfl ?_
    obtain ⟨t1, h0, h⟩ := xs_some h
    obtain ⟨fs, e1, e2⟩ := xgI_some h0
    refine px_get rfl e1 e2 rfl ?_
    refine px_icge rfl (by decide) rfl (fun hc => ?_) (fun hc => ?_)
    · replace h := (if_pos hc).symm.trans h
      refine px_forget (n := 5) (lv' := [_, _, _, _, _, _, _, _]) rfl ?_
      exact (r_M_isAgain_138 h :)
    · replace h := (if_neg hc).symm.trans h
      refine px_ld rfl rfl rfl rfl rfl ?_
      obtain ⟨t2, h0, h⟩ := xs_some h
      obtain ⟨fs, e1, e2⟩ := xgR_some h0
      refine px_get rfl e1 e2 rfl ?_
      refine px_ld rfl rfl rfl rfl rfl ?_
      obtain ⟨t3, h0, h⟩ := xs_some h
      obtain ⟨N, f, e1, e2, e3⟩ := xaI_some h0
      subst e3
      refine px_iald rfl e1 rfl e2 rfl ?_
      refine px_ld rfl rfl rfl rfl rfl ?_
      obtain ⟨t4, h0, h⟩ := xs_some h
      obtain ⟨fs, e1, e2⟩ := xgR_some h0
      refine px_get rfl e1 e2 rfl ?_
      refine px_ld rfl rfl rfl rfl rfl ?_
      obtain ⟨t5, h0, h⟩ := xs_some h
      obtain ⟨N, f, e1, e2, e3⟩ := xaI_some h0
      subst e3
      refine px_iald rfl e1 rfl e2 rfl ?_
      refine px_alu rfl rfl rfl ?_
      refine px_ld rfl rfl rfl rfl rfl ?_
      refine px_ld rfl rfl rfl rfl rfl ?_
      refine px_alu rfl rfl rfl ?_
      refine px_icne rfl (by decide) rfl (fun hc => ?_) (fun hc => ?_)
      · replace h := (if_neg hc).symm.trans h
        refine px_ic (k := 0) rfl rfl rfl ?_
        exact (r_M_isAgain_66 @ih h :)
      · replace h := (if_pos hc).symm.trans h
        refine px_ic (k := 1) rfl rfl rfl ?_
        refine px_goto rfl (by decide) rfl ?_
        exact (r_M_isAgain_66 @ih h :)
def f_M_isAgain (F : Nat) (a0 : Nat) (a1 : Int32) (a2 : Int32) (ph : px_H) : Option (Int32 × px_H) :=
  (xo ph 12 a0).bind fun _ =>
  xb (f_M_info F a0 a1 a2 ph) fun t1 ph2 =>
  (xo ph2 12 a0).bind fun _ =>
  xb (f_M_nameAt F a0 a1 t1.toInt32 ph2) fun t3 ph4 =>
  (xo ph4 12 a0).bind fun _ =>
  xb (f_M_info F a0 a1 a2 ph4) fun t5 ph6 =>
  (xo ph6 12 a0).bind fun _ =>
  xb (f_M_nameEnd F a0 a1 t5.toInt32 ph6) fun t7 ph8 =>
  f_M_isAgain_30 F F a0 t3 t7 (nI 0) ph8
theorem r_M_isAgain {l : Launch} {g : px_G} {d F : Nat} {a0 : Nat} {a1 : Int32} {a2 : Int32} {ph : px_H} {r : Int32} {ph' : px_H} (h : f_M_isAgain F a0 a1 a2 ph = some (r, ph')) : PW l g (d + 7) m_M_isAgain 0 [.ref a0, .int a1, .int a2, px_u, px_u, px_u, px_u, px_u] [] ph (px_qI r ph') := by
  unfold f_M_isAgain at h
  refine px_ld rfl rfl rfl rfl rfl ?_
  refine px_ld rfl rfl rfl rfl rfl ?_
  refine px_ld rfl rfl rfl rfl rfl ?_
  refine px_ld rfl rfl rfl rfl rfl ?_
  refine px_ld rfl rfl rfl rfl rfl ?_
  obtain ⟨fs, h0, h⟩ := xs_some h
  have e1 := xo_some h0
  obtain ⟨t1, ph2, h0, h⟩ := xb_some h
  refine px_cV2 rfl rfl e1 rfl rfl rfl rfl rfl rfl rfl (r_M_info h0 :) (fun _ _ q => nomatch q.2) (fun r ph' q => ?_)
  obtain ⟨rfl, q⟩ := q
  cases q
  refine px_alu rfl rfl rfl ?_
  obtain ⟨fs, h0, h⟩ := xs_some h
  have e1 := xo_some h0
  obtain ⟨t3, ph4, h0, h⟩ := xb_some h
  refine px_cV2 rfl rfl e1 rfl rfl rfl rfl rfl rfl rfl (r_M_nameAt h0 :) (fun _ _ q => nomatch q.2) (fun r ph' q => ?_)
  obtain ⟨rfl, q⟩ := q
  cases q
  refine px_st (lv' := [_, _, _, _, _, _, _, _]) rfl rfl rfl rfl rfl rfl rfl ?_
  refine px_ld rfl rfl rfl rfl rfl ?_
  refine px_ld rfl rfl rfl rfl rfl ?_
  refine px_ld rfl rfl rfl rfl rfl ?_
  refine px_ld rfl rfl rfl rfl rfl ?_
  refine px_ld rfl rfl rfl rfl rfl ?_
  obtain ⟨fs, h0, h⟩ := xs_some h
  have e1 := xo_some h0
  obtain ⟨t5, ph6, h0, h⟩ := xb_some h
  refine px_cV2 rfl rfl e1 rfl rfl rfl rfl rfl rfl rfl (r_M_info h0 :) (fun _ _ q => nomatch q.2) (fun r ph' q => ?_)
  obtain ⟨rfl, q⟩ := q
  cases q
  refine px_alu rfl rfl rfl ?_
  obtain ⟨fs, h0, h⟩ := xs_some h
  have e1 := xo_some h0
  obtain ⟨t7, ph8, h0, h⟩ := xb_some h
  refine px_cV2 rfl rfl e1 rfl rfl rfl rfl rfl rfl rfl (r_M_nameEnd h0 :) (fun _ _ q => nomatch q.2) (fun r ph' q => ?_)
  obtain ⟨rfl, q⟩ := q
  cases q
  refine px_st (lv' := [_, _, _, _, _, _, _, _]) rfl rfl rfl rfl rfl rfl rfl ?_
  refine px_ic (k := 0) rfl rfl rfl ?_
  refine px_st (lv' := [_, _, _, _, _, _, _, _]) rfl rfl rfl rfl rfl rfl rfl ?_
  refine px_forget (n := 1) (lv' := [_, _, _, _, _, _, _, _]) rfl ?_
  refine px_forget (n := 2) (lv' := [_, _, _, _, _, _, _, _]) rfl ?_
  exact (r_M_isAgain_30 _ h :)
def f_M_dropGroups_112 (F : Nat) (ph : px_H) : Option (Unit × px_H) :=
  some ((), ph)
theorem r_M_dropGroups_112 {l : Launch} {g : px_G} {d F : Nat} {ph : px_H} {r : Unit} {ph' : px_H} (h : f_M_dropGroups_112 F ph = some (r, ph')) : PW l g (d + 8) m_M_dropGroups 112 [px_u, px_u, px_u, px_u, px_u] [] ph (px_qV r ph') := by
  unfold f_M_dropGroups_112 at h
  cases h
  exact px_vret rfl rfl rfl ⟨rfl, rfl⟩
def f_M_dropGroups_106 (F : Nat) (k8 : Nat → Int32 → Int32 → Int32 → px_H → Option (Unit × px_H)) (a0 : Nat) (a1 : Int32) (a2 : Int32) (a3 : Int32) (ph : px_H) : Option (Unit × px_H) :=
  k8 a0 a1 a2 (a3 + nI 1) ph
theorem r_M_dropGroups_106 {l : Launch} {g : px_G} {d F : Nat} {k8 : Nat → Int32 → Int32 → Int32 → px_H → Option (Unit × px_H)} (hk8 : ∀ {a0 : Nat} {a1 : Int32} {a2 : Int32} {a3 : Int32} {ph : px_H} {r : Unit} {ph' : px_H}, k8 a0 a1 a2 a3 ph = some (r, ph') → PW l g (d + 8) m_M_dropGroups 8 [.ref a0, .int a1, .int a2, .int a3, px_u] [] ph (px_qV r ph')) {a0 : Nat} {a1 : Int32} {a2 : Int32} {a3 : Int32} {ph : px_H} {r : Unit} {ph' : px_H} (h : f_M_dropGroups_106 F k8 a0 a1 a2 a3 ph = some (r, ph')) : PW l g (d + 8) m_M_dropGroups 106 [.ref a0, .int a1, .int a2, .int a3, px_u] [] ph (px_qV r ph') := by
  unfold f_M_dropGroups_106 at h
  refine px_iinc (lv' := [_, _, _, _, _]) rfl rfl rfl rfl rfl rfl ?_
  refine px_goto rfl (by decide) rfl ?_
  exact (hk8 h :)
def f_M_dropGroups_63 (F : Nat) (k8 : Nat → Int32 → Int32 → Int32 → px_H → Option (Unit × px_H)) : Nat → Nat → Int32 → Int32 → Int32 → Int32 → px_H → Option (Unit × px_H)
  | 0, _, _, _, _, _, _ => none
  | n + 1, a0, a1, a2, a3, a4, ph =>
    (xo ph 12 a0).bind fun _ =>
    xb (f_M_size F a0 a2 a3 ph) fun t1 ph2 =>
    if (t1 / ((4 : Int64))) ≤ a4.toInt64 then
      f_M_dropGroups_106 F k8 a0 a1 a2 a3 ph2
    else
      (xgR ph2 12 65 a0).bind fun t3 =>
      (xo ph2 12 a0).bind fun _ =>
      xb (f_M_groupNumber F a0 a2 a3 a4 ph2) fun t4 ph5 =>
      (xsI ph5 3 t3 (((nI 24) * a1) + t4.toInt32) ((nI 1) &&& 1)).bind fun ph6 =>
      f_M_dropGroups_63 F k8 n a0 a1 a2 a3 (a4 + nI 1) ph6
theorem r_M_dropGroups_63 {l : Launch} {g : px_G} {d F : Nat} {k8 : Nat → Int32 → Int32 → Int32 → px_H → Option (Unit × px_H)} (hk8 : ∀ {a0 : Nat} {a1 : Int32} {a2 : Int32} {a3 : Int32} {ph : px_H} {r : Unit} {ph' : px_H}, k8 a0 a1 a2 a3 ph = some (r, ph') → PW l g (d + 8) m_M_dropGroups 8 [.ref a0, .int a1, .int a2, .int a3, px_u] [] ph (px_qV r ph')) : ∀ (n : Nat) {a0 : Nat} {a1 : Int32} {a2 : Int32} {a3 : Int32} {a4 : Int32} {ph : px_H} {r : Unit} {ph' : px_H}, f_M_dropGroups_63 F k8 n a0 a1 a2 a3 a4 ph = some (r, ph') → PW l g (d + 8) m_M_dropGroups 63 [.ref a0, .int a1, .int a2, .int a3, .int a4] [] ph (px_qV r ph') := by
  intro n
  induction n with
  | zero => intro _ _ _ _ _ _ _ _ h; cases h
  | succ n ih =>
    intro a0 a1 a2 a3 a4 ph r ph' h
    unfold f_M_dropGroups_63 at h
    refine px_ld rfl rfl rfl rfl rfl ?_
    refine px_alu rfl rfl rfl ?_
    refine px_ld rfl rfl rfl rfl rfl ?_
    refine px_ld rfl rfl rfl rfl rfl ?_
    refine px_ld rfl rfl rfl rfl rfl ?_
    obtain ⟨fs, h0, h⟩ := xs_some h
    have e1 := xo_some h0
    obtain ⟨t1, ph2, h0, h⟩ := xb_some h
    refine px_cV2 rfl rfl e1 rfl rfl rfl rfl rfl rfl rfl (r_M_size h0 :) (fun _ _ q => nomatch q.2) (fun r ph' q => ?_)
    obtain ⟨rfl, q⟩ := q
    cases q
    refine px_ldc2 rfl rfl rfl ?_
    refine px_ldiv rfl (by decide) rfl ?_
    refine px_alu rfl rfl rfl ?_
    refine px_ifge rfl (by decide) rfl (fun hc => ?_) (fun hc => ?_)
    · replace h := (if_pos ((lg_cmp_ge _ _).mp hc)).symm.trans h
      refine px_forget (n := 4) (lv' := [_, _, _, _, _]) rfl ?_
      exact (r_M_dropGroups_106 @hk8 h :)
    · replace h := (if_neg (fun q => hc ((lg_cmp_ge _ _).mpr q))).symm.trans h
      refine px_ld rfl rfl rfl rfl rfl ?_
      obtain ⟨t3, h0, h⟩ := xs_some h
      obtain ⟨fs, e1, e2⟩ := xgR_some h0
      refine px_get rfl e1 e2 rfl ?_
      refine px_ic (k := 24) rfl rfl rfl ?_
      refine px_ld rfl rfl rfl rfl rfl ?_
      refine px_alu rfl rfl rfl ?_
      refine px_ld rfl rfl rfl rfl rfl ?_
      refine px_ld rfl rfl rfl rfl rfl ?_
      refine px_ld rfl rfl rfl rfl rfl ?_
      refine px_ld rfl rfl rfl rfl rfl ?_
      obtain ⟨fs, h0, h⟩ := xs_some h
      have e1 := xo_some h0
      obtain ⟨t4, ph5, h0, h⟩ := xb_some h
      refine px_cV3 rfl rfl e1 rfl rfl rfl rfl rfl rfl rfl (r_M_groupNumber h0 :) (fun _ _ q => nomatch q.2) (fun r ph' q => ?_)
      obtain ⟨rfl, q⟩ := q
      cases q
      refine px_alu rfl rfl rfl ?_
      refine px_alu rfl rfl rfl ?_
      refine px_ic (k := 1) rfl rfl rfl ?_
      obtain ⟨ph6, h0, h⟩ := xs_some h
      obtain ⟨N, f, e1, e2, e3⟩ := xsI_some h0
      subst e3
      refine px_zast rfl e1 rfl e2 rfl ?_
      refine px_iinc (lv' := [_, _, _, _, _]) rfl rfl rfl rfl rfl rfl ?_
      refine px_goto rfl (by decide) rfl ?_
      exact (ih h :)
def f_M_dropGroups_8 (F : Nat) : Nat → Nat → Int32 → Int32 → Int32 → px_H → Option (Unit × px_H)
  | 0, _, _, _, _, _ => none
  | n + 1, a0, a1, a2, a3, ph =>
    (xo ph 12 a0).bind fun _ =>
    xb (f_M_sections F a0 a2 ph) fun t1 ph2 =>
    if t1 ≤ a3 then
      f_M_dropGroups_112 F ph2
    else
      (xo ph2 12 a0).bind fun _ =>
      xb (f_M_isGroup F a0 a2 a3 ph2) fun t3 ph4 =>
      if t3 = 0 then
        f_M_dropGroups_106 F (f_M_dropGroups_8 F n) a0 a1 a2 a3 ph4
      else
        (xo ph4 12 a0).bind fun _ =>
        xb (f_M_groupNumber F a0 a2 a3 (nI 0) ph4) fun t5 ph6 =>
        if t5 = (lN 1) then
          (xo ph6 12 a0).bind fun _ =>
          xb (f_M_isAgain F a0 a2 a3 ph6) fun t7 ph8 =>
          if t7 = 0 then
            f_M_dropGroups_106 F (f_M_dropGroups_8 F n) a0 a1 a2 a3 ph8
          else
            (xgI ph8 12 69 a0).bind fun t9 =>
            (xpI ph8 12 69 a0 (t9 + (nI 1))).bind fun ph10 =>
            f_M_dropGroups_63 F (f_M_dropGroups_8 F n) F a0 a1 a2 a3 (nI 1) ph10
        else
          f_M_dropGroups_106 F (f_M_dropGroups_8 F n) a0 a1 a2 a3 ph6
theorem r_M_dropGroups_8 {l : Launch} {g : px_G} {d F : Nat} : ∀ (n : Nat) {a0 : Nat} {a1 : Int32} {a2 : Int32} {a3 : Int32} {ph : px_H} {r : Unit} {ph' : px_H}, f_M_dropGroups_8 F n a0 a1 a2 a3 ph = some (r, ph') → PW l g (d + 8) m_M_dropGroups 8 [.ref a0, .int a1, .int a2, .int a3, px_u] [] ph (px_qV r ph') := by
  intro n
  induction n with
  | zero => intro _ _ _ _ _ _ _ h; cases h
  | succ n ih =>
    intro a0 a1 a2 a3 ph r ph' h
    unfold f_M_dropGroups_8 at h
    refine px_ld rfl rfl rfl rfl rfl ?_
    refine px_ld rfl rfl rfl rfl rfl ?_
    refine px_ld rfl rfl rfl rfl rfl ?_
    obtain ⟨fs, h0, h⟩ := xs_some h
    have e1 := xo_some h0
    obtain ⟨t1, ph2, h0, h⟩ := xb_some h
    refine px_cV1 rfl rfl e1 rfl rfl rfl rfl rfl rfl rfl (r_M_sections h0 :) (fun _ _ q => nomatch q.2) (fun r ph' q => ?_)
    obtain ⟨rfl, q⟩ := q
    cases q
    refine px_icge rfl (by decide) rfl (fun hc => ?_) (fun hc => ?_)
    · replace h := (if_pos hc).symm.trans h
      refine px_forget (n := 0) (lv' := [_, _, _, _, _]) rfl ?_
      refine px_forget (n := 1) (lv' := [_, _, _, _, _]) rfl ?_
      refine px_forget (n := 2) (lv' := [_, _, _, _, _]) rfl ?_
      refine px_forget (n := 3) (lv' := [_, _, _, _, _]) rfl ?_
      exact (r_M_dropGroups_112 h :)
    · replace h := (if_neg hc).symm.trans h
      refine px_ld rfl rfl rfl rfl rfl ?_
      refine px_ld rfl rfl rfl rfl rfl ?_
      refine px_ld rfl rfl rfl rfl rfl ?_
      obtain ⟨fs, h0, h⟩ := xs_some h
      have e1 := xo_some h0
      obtain ⟨t3, ph4, h0, h⟩ := xb_some h
      refine px_cV2 rfl rfl e1 rfl rfl rfl rfl rfl rfl rfl (r_M_isGroup h0 :) (fun _ _ q => nomatch q.2) (fun r ph' q => ?_)
      obtain ⟨rfl, q⟩ := q
      cases q
      refine px_ifeq rfl (by decide) rfl (fun hc => ?_) (fun hc => ?_)
      · replace h := (if_pos hc).symm.trans h
        exact (r_M_dropGroups_106 @ih h :)
      · replace h := (if_neg hc).symm.trans h
        refine px_ld rfl rfl rfl rfl rfl ?_
        refine px_ld rfl rfl rfl rfl rfl ?_
        refine px_ld rfl rfl rfl rfl rfl ?_
        refine px_ic (k := 0) rfl rfl rfl ?_
        obtain ⟨fs, h0, h⟩ := xs_some h
        have e1 := xo_some h0
        obtain ⟨t5, ph6, h0, h⟩ := xb_some h
        refine px_cV3 rfl rfl e1 rfl rfl rfl rfl rfl rfl rfl (r_M_groupNumber h0 :) (fun _ _ q => nomatch q.2) (fun r ph' q => ?_)
        obtain ⟨rfl, q⟩ := q
        cases q
        refine px_alu rfl rfl rfl ?_
        refine px_alu rfl rfl rfl ?_
        refine px_ifne rfl (by decide) rfl (fun hc => ?_) (fun hc => ?_)
        · replace h := (if_neg (fun q => hc ((lg_cmp_eq _ _).mpr q))).symm.trans h
          exact (r_M_dropGroups_106 @ih h :)
        · replace h := (if_pos ((lg_cmp_eq _ _).mp hc)).symm.trans h
          refine px_ld rfl rfl rfl rfl rfl ?_
          refine px_ld rfl rfl rfl rfl rfl ?_
          refine px_ld rfl rfl rfl rfl rfl ?_
          obtain ⟨fs, h0, h⟩ := xs_some h
          have e1 := xo_some h0
          obtain ⟨t7, ph8, h0, h⟩ := xb_some h
          refine px_cV2 rfl rfl e1 rfl rfl rfl rfl rfl rfl rfl (r_M_isAgain h0 :) (fun _ _ q => nomatch q.2) (fun r ph' q => ?_)
          obtain ⟨rfl, q⟩ := q
          cases q
          refine px_ifne rfl (by decide) rfl (fun hc => ?_) (fun hc => ?_)
          · replace h := (if_neg hc).symm.trans h
            refine px_ld rfl rfl rfl rfl rfl ?_
            refine px_alu rfl rfl rfl ?_
            obtain ⟨t9, h0, h⟩ := xs_some h
            obtain ⟨fs, e1, e2⟩ := xgI_some h0
            refine px_get rfl e1 e2 rfl ?_
            refine px_ic (k := 1) rfl rfl rfl ?_
            refine px_alu rfl rfl rfl ?_
            obtain ⟨ph10, h0, h⟩ := xs_some h
            obtain ⟨fs, e1, e2, e3⟩ := xpI_some h0
            subst e3
            refine px_put rfl e1 e2 trivial rfl ?_
            refine px_ic (k := 1) rfl rfl rfl ?_
            refine px_st (lv' := [_, _, _, _, _]) rfl rfl rfl rfl rfl rfl rfl ?_
            exact (r_M_dropGroups_63 @ih _ h :)
          · replace h := (if_pos hc).symm.trans h
            refine px_goto rfl (by decide) rfl ?_
            exact (r_M_dropGroups_106 @ih h :)
def f_M_dropGroups (F : Nat) (a0 : Nat) (a1 : Int32) (ph : px_H) : Option (Unit × px_H) :=
  (xo ph 12 a0).bind fun _ =>
  xb (f_M_object F a0 a1 ph) fun t1 ph2 =>
  f_M_dropGroups_8 F F a0 a1 t1 (nI 1) ph2
theorem r_M_dropGroups {l : Launch} {g : px_G} {d F : Nat} {a0 : Nat} {a1 : Int32} {ph : px_H} {r : Unit} {ph' : px_H} (h : f_M_dropGroups F a0 a1 ph = some (r, ph')) : PW l g (d + 8) m_M_dropGroups 0 [.ref a0, .int a1, px_u, px_u, px_u] [] ph (px_qV r ph') := by
  unfold f_M_dropGroups at h
  refine px_ld rfl rfl rfl rfl rfl ?_
  refine px_ld rfl rfl rfl rfl rfl ?_
  obtain ⟨fs, h0, h⟩ := xs_some h
  have e1 := xo_some h0
  obtain ⟨t1, ph2, h0, h⟩ := xb_some h
  refine px_cV1 rfl rfl e1 rfl rfl rfl rfl rfl rfl rfl (r_M_object h0 :) (fun _ _ q => nomatch q.2) (fun r ph' q => ?_)
  obtain ⟨rfl, q⟩ := q
  cases q
  refine px_st (lv' := [_, _, _, _, _]) rfl rfl rfl rfl rfl rfl rfl ?_
  refine px_ic (k := 1) rfl rfl rfl ?_
  refine px_st (lv' := [_, _, _, _, _]) rfl rfl rfl rfl rfl rfl rfl ?_
  exact (r_M_dropGroups_8 _ h :)
def f_M_enter (F : Nat) (a0 : Nat) (a1 : Int32) (a2 : Int32) (ph : px_H) : Option (Int32 × px_H) :=
  (xgR ph 12 6 a0).bind fun t1 =>
  (xo ph 12 a0).bind fun _ =>
  xb (f_M_nameAt F a0 a1 a2 ph) fun t2 ph3 =>
  (xo ph3 12 a0).bind fun _ =>
  xb (f_M_nameEnd F a0 a1 a2 ph3) fun t4 ph5 =>
  (xo ph5 12 a0).bind fun _ =>
  xb (f_M_entered F a0 t1 t2 t4 ph5) fun t6 ph7 =>
  some (t6, ph7)
theorem r_M_enter {l : Launch} {g : px_G} {d F : Nat} {a0 : Nat} {a1 : Int32} {a2 : Int32} {ph : px_H} {r : Int32} {ph' : px_H} (h : f_M_enter F a0 a1 a2 ph = some (r, ph')) : PW l g (d + 7) m_M_enter 0 [.ref a0, .int a1, .int a2] [] ph (px_qI r ph') := by
  unfold f_M_enter at h
  refine px_ld rfl rfl rfl rfl rfl ?_
  refine px_ld rfl rfl rfl rfl rfl ?_
  obtain ⟨t1, h0, h⟩ := xs_some h
  obtain ⟨fs, e1, e2⟩ := xgR_some h0
  refine px_get rfl e1 e2 rfl ?_
  refine px_ld rfl rfl rfl rfl rfl ?_
  refine px_ld rfl rfl rfl rfl rfl ?_
  refine px_ld rfl rfl rfl rfl rfl ?_
  obtain ⟨fs, h0, h⟩ := xs_some h
  have e1 := xo_some h0
  obtain ⟨t2, ph3, h0, h⟩ := xb_some h
  refine px_cV2 rfl rfl e1 rfl rfl rfl rfl rfl rfl rfl (r_M_nameAt h0 :) (fun _ _ q => nomatch q.2) (fun r ph' q => ?_)
  obtain ⟨rfl, q⟩ := q
  cases q
  refine px_ld rfl rfl rfl rfl rfl ?_
  refine px_ld rfl rfl rfl rfl rfl ?_
  refine px_ld rfl rfl rfl rfl rfl ?_
  obtain ⟨fs, h0, h⟩ := xs_some h
  have e1 := xo_some h0
  obtain ⟨t4, ph5, h0, h⟩ := xb_some h
  refine px_cV2 rfl rfl e1 rfl rfl rfl rfl rfl rfl rfl (r_M_nameEnd h0 :) (fun _ _ q => nomatch q.2) (fun r ph' q => ?_)
  obtain ⟨rfl, q⟩ := q
  cases q
  obtain ⟨fs, h0, h⟩ := xs_some h
  have e1 := xo_some h0
  obtain ⟨t6, ph7, h0, h⟩ := xb_some h
  refine px_cV3 rfl rfl e1 rfl rfl rfl rfl rfl rfl rfl (r_M_entered h0 :) (fun _ _ q => nomatch q.2) (fun r ph' q => ?_)
  obtain ⟨rfl, q⟩ := q
  cases q
  cases h
  exact px_iret rfl (Or.inl rfl) rfl ⟨rfl, rfl⟩
def f_M_whereNow_40 (F : Nat) (s0 : Int32) (ph : px_H) : Option (Int32 × px_H) :=
  some (s0, ph)
theorem r_M_whereNow_40 {l : Launch} {g : px_G} {d F : Nat} {s0 : Int32} {ph : px_H} {r : Int32} {ph' : px_H} (h : f_M_whereNow_40 F s0 ph = some (r, ph')) : PW l g (d + 6) m_M_whereNow 40 [px_u, px_u, px_u, px_u] [.int s0] ph (px_qI r ph') := by
  unfold f_M_whereNow_40 at h
  cases h
  exact px_iret rfl (Or.inl rfl) rfl ⟨rfl, rfl⟩
def f_M_whereNow_39 (F : Nat) (a3 : Int32) (ph : px_H) : Option (Int32 × px_H) :=
  f_M_whereNow_40 F a3 ph
theorem r_M_whereNow_39 {l : Launch} {g : px_G} {d F : Nat} {a3 : Int32} {ph : px_H} {r : Int32} {ph' : px_H} (h : f_M_whereNow_39 F a3 ph = some (r, ph')) : PW l g (d + 6) m_M_whereNow 39 [px_u, px_u, px_u, .int a3] [] ph (px_qI r ph') := by
  unfold f_M_whereNow_39 at h
  refine px_ld rfl rfl rfl rfl rfl ?_
  refine px_forget (n := 3) (lv' := [_, _, _, _]) rfl ?_
  exact (r_M_whereNow_40 h :)
def f_M_whereNow (F : Nat) (a0 : Nat) (a1 : Int32) (a2 : Int32) (ph : px_H) : Option (Int32 × px_H) :=
  (xo ph 12 a0).bind fun _ =>
  xb (f_M_object F a0 a1 ph) fun t1 ph2 =>
  (xo ph2 12 a0).bind fun _ =>
  xb (f_M_where F a0 t1 a2 ph2) fun t3 ph4 =>
  if t3 ≤ 0 then
    f_M_whereNow_39 F t3 ph4
  else
    if (nI 24) ≤ t3 then
      f_M_whereNow_39 F t3 ph4
    else
      (xgR ph4 12 65 a0).bind fun t5 =>
      (xaI ph4 3 t5 (((nI 24) * a1) + t3)).bind fun t6 =>
      if t6 = 0 then
        f_M_whereNow_39 F t3 ph4
      else
        f_M_whereNow_40 F (nI 0) ph4
theorem r_M_whereNow {l : Launch} {g : px_G} {d F : Nat} {a0 : Nat} {a1 : Int32} {a2 : Int32} {ph : px_H} {r : Int32} {ph' : px_H} (h : f_M_whereNow F a0 a1 a2 ph = some (r, ph')) : PW l g (d + 6) m_M_whereNow 0 [.ref a0, .int a1, .int a2, px_u] [] ph (px_qI r ph') := by
  unfold f_M_whereNow at h
  refine px_ld rfl rfl rfl rfl rfl ?_
  refine px_ld rfl rfl rfl rfl rfl ?_
  refine px_ld rfl rfl rfl rfl rfl ?_
  obtain ⟨fs, h0, h⟩ := xs_some h
  have e1 := xo_some h0
  obtain ⟨t1, ph2, h0, h⟩ := xb_some h
  refine px_cV1 rfl rfl e1 rfl rfl rfl rfl rfl rfl rfl (r_M_object h0 :) (fun _ _ q => nomatch q.2) (fun r ph' q => ?_)
  obtain ⟨rfl, q⟩ := q
  cases q
  refine px_ld rfl rfl rfl rfl rfl ?_
  obtain ⟨fs, h0, h⟩ := xs_some h
  have e1 := xo_some h0
  obtain ⟨t3, ph4, h0, h⟩ := xb_some h
  refine px_cV2 rfl rfl e1 rfl rfl rfl rfl rfl rfl rfl (r_M_where h0 :) (fun _ _ q => nomatch q.2) (fun r ph' q => ?_)
  obtain ⟨rfl, q⟩ := q
  cases q
  refine px_st (lv' := [_, _, _, _]) rfl rfl rfl rfl rfl rfl rfl ?_
  refine px_ld rfl rfl rfl rfl rfl ?_
  refine px_ifle rfl rfl rfl (fun hc => ?_) (fun hc => ?_)
  · replace h := (if_pos hc).symm.trans h
    refine px_forget (n := 0) (lv' := [_, _, _, _]) rfl ?_
    refine px_forget (n := 1) (lv' := [_, _, _, _]) rfl ?_
    refine px_forget (n := 2) (lv' := [_, _, _, _]) rfl ?_
    exact (r_M_whereNow_39 h :)
  · replace h := (if_neg hc).symm.trans h
    refine px_ld rfl rfl rfl rfl rfl ?_
    refine px_ic (k := 24) rfl rfl rfl ?_
    refine px_icge rfl rfl rfl (fun hc => ?_) (fun hc => ?_)
    · replace h := (if_pos hc).symm.trans h
      refine px_forget (n := 0) (lv' := [_, _, _, _]) rfl ?_
      refine px_forget (n := 1) (lv' := [_, _, _, _]) rfl ?_
      refine px_forget (n := 2) (lv' := [_, _, _, _]) rfl ?_
      exact (r_M_whereNow_39 h :)
    · replace h := (if_neg hc).symm.trans h
      refine px_ld rfl rfl rfl rfl rfl ?_
      obtain ⟨t5, h0, h⟩ := xs_some h
      obtain ⟨fs, e1, e2⟩ := xgR_some h0
      refine px_get rfl e1 e2 rfl ?_
      refine px_ic (k := 24) rfl rfl rfl ?_
      refine px_ld rfl rfl rfl rfl rfl ?_
      refine px_alu rfl rfl rfl ?_
      refine px_ld rfl rfl rfl rfl rfl ?_
      refine px_alu rfl rfl rfl ?_
      obtain ⟨t6, h0, h⟩ := xs_some h
      obtain ⟨N, f, e1, e2, e3⟩ := xaI_some h0
      subst e3
      refine px_zald rfl e1 rfl e2 rfl ?_
      refine px_ifeq rfl rfl rfl (fun hc => ?_) (fun hc => ?_)
      · replace h := (if_pos hc).symm.trans h
        refine px_forget (n := 0) (lv' := [_, _, _, _]) rfl ?_
        refine px_forget (n := 1) (lv' := [_, _, _, _]) rfl ?_
        refine px_forget (n := 2) (lv' := [_, _, _, _]) rfl ?_
        exact (r_M_whereNow_39 h :)
      · replace h := (if_neg hc).symm.trans h
        refine px_ic (k := 0) rfl rfl rfl ?_
        refine px_goto rfl rfl rfl ?_
        refine px_forget (n := 0) (lv' := [_, _, _, _]) rfl ?_
        refine px_forget (n := 1) (lv' := [_, _, _, _]) rfl ?_
        refine px_forget (n := 2) (lv' := [_, _, _, _]) rfl ?_
        refine px_forget (n := 3) (lv' := [_, _, _, _]) rfl ?_
        exact (r_M_whereNow_40 h :)
def f_M_strengthOf_48 (F : Nat) (s0 : Int32) (ph : px_H) : Option (Int32 × px_H) :=
  some (s0, ph)
theorem r_M_strengthOf_48 {l : Launch} {g : px_G} {d F : Nat} {s0 : Int32} {ph : px_H} {r : Int32} {ph' : px_H} (h : f_M_strengthOf_48 F s0 ph = some (r, ph')) : PW l g (d + 7) m_M_strengthOf 48 [px_u, px_u, px_u] [.int s0] ph (px_qI r ph') := by
  unfold f_M_strengthOf_48 at h
  cases h
  exact px_iret rfl (Or.inl rfl) rfl ⟨rfl, rfl⟩
def f_M_strengthOf (F : Nat) (a0 : Nat) (a1 : Int32) (a2 : Int32) (ph : px_H) : Option (Int32 × px_H) :=
  (xo ph 12 a0).bind fun _ =>
  xb (f_M_whereNow F a0 a1 a2 ph) fun t1 ph2 =>
  if t1 = 0 then
    f_M_strengthOf_48 F (nI 0) ph2
  else
    (xo ph2 12 a0).bind fun _ =>
    xb (f_M_whereNow F a0 a1 a2 ph2) fun t3 ph4 =>
    if t3 = ((65522 : Int32)) then
      f_M_strengthOf_48 F (nI 2) ph4
    else
      (xo ph4 12 a0).bind fun _ =>
      xb (f_M_object F a0 a1 ph4) fun t5 ph6 =>
      (xo ph6 12 a0).bind fun _ =>
      xb (f_M_bind F a0 t5 a2 ph6) fun t7 ph8 =>
      if t7 = (nI 1) then
        f_M_strengthOf_48 F (nI 3) ph8
      else
        f_M_strengthOf_48 F (nI 1) ph8
theorem r_M_strengthOf {l : Launch} {g : px_G} {d F : Nat} {a0 : Nat} {a1 : Int32} {a2 : Int32} {ph : px_H} {r : Int32} {ph' : px_H} (h : f_M_strengthOf F a0 a1 a2 ph = some (r, ph')) : PW l g (d + 7) m_M_strengthOf 0 [.ref a0, .int a1, .int a2] [] ph (px_qI r ph') := by
  unfold f_M_strengthOf at h
  refine px_ld rfl rfl rfl rfl rfl ?_
  refine px_ld rfl rfl rfl rfl rfl ?_
  refine px_ld rfl rfl rfl rfl rfl ?_
  obtain ⟨fs, h0, h⟩ := xs_some h
  have e1 := xo_some h0
  obtain ⟨t1, ph2, h0, h⟩ := xb_some h
  refine px_cV2 rfl rfl e1 rfl rfl rfl rfl rfl rfl rfl (r_M_whereNow h0 :) (fun _ _ q => nomatch q.2) (fun r ph' q => ?_)
  obtain ⟨rfl, q⟩ := q
  cases q
  refine px_ifne rfl rfl rfl (fun hc => ?_) (fun hc => ?_)
  · replace h := (if_neg hc).symm.trans h
    refine px_ld rfl rfl rfl rfl rfl ?_
    refine px_ld rfl rfl rfl rfl rfl ?_
    refine px_ld rfl rfl rfl rfl rfl ?_
    obtain ⟨fs, h0, h⟩ := xs_some h
    have e1 := xo_some h0
    obtain ⟨t3, ph4, h0, h⟩ := xb_some h
    refine px_cV2 rfl rfl e1 rfl rfl rfl rfl rfl rfl rfl (r_M_whereNow h0 :) (fun _ _ q => nomatch q.2) (fun r ph' q => ?_)
    obtain ⟨rfl, q⟩ := q
    cases q
    refine px_ldcw rfl (by decide) rfl rfl ?_
    refine px_icne rfl rfl rfl (fun hc => ?_) (fun hc => ?_)
    · replace h := (if_neg hc).symm.trans h
      refine px_ld rfl rfl rfl rfl rfl ?_
      refine px_ld rfl rfl rfl rfl rfl ?_
      refine px_ld rfl rfl rfl rfl rfl ?_
      obtain ⟨fs, h0, h⟩ := xs_some h
      have e1 := xo_some h0
      obtain ⟨t5, ph6, h0, h⟩ := xb_some h
      refine px_cV1 rfl rfl e1 rfl rfl rfl rfl rfl rfl rfl (r_M_object h0 :) (fun _ _ q => nomatch q.2) (fun r ph' q => ?_)
      obtain ⟨rfl, q⟩ := q
      cases q
      refine px_ld rfl rfl rfl rfl rfl ?_
      obtain ⟨fs, h0, h⟩ := xs_some h
      have e1 := xo_some h0
      obtain ⟨t7, ph8, h0, h⟩ := xb_some h
      refine px_cV2 rfl rfl e1 rfl rfl rfl rfl rfl rfl rfl (r_M_bind h0 :) (fun _ _ q => nomatch q.2) (fun r ph' q => ?_)
      obtain ⟨rfl, q⟩ := q
      cases q
      refine px_ic (k := 1) rfl rfl rfl ?_
      refine px_icne rfl rfl rfl (fun hc => ?_) (fun hc => ?_)
      · replace h := (if_neg hc).symm.trans h
        refine px_ic (k := 1) rfl rfl rfl ?_
        refine px_forget (n := 0) (lv' := [_, _, _]) rfl ?_
        refine px_forget (n := 1) (lv' := [_, _, _]) rfl ?_
        refine px_forget (n := 2) (lv' := [_, _, _]) rfl ?_
        exact (r_M_strengthOf_48 h :)
      · replace h := (if_pos hc).symm.trans h
        refine px_ic (k := 3) rfl rfl rfl ?_
        refine px_goto rfl rfl rfl ?_
        refine px_forget (n := 0) (lv' := [_, _, _]) rfl ?_
        refine px_forget (n := 1) (lv' := [_, _, _]) rfl ?_
        refine px_forget (n := 2) (lv' := [_, _, _]) rfl ?_
        exact (r_M_strengthOf_48 h :)
    · replace h := (if_pos hc).symm.trans h
      refine px_ic (k := 2) rfl rfl rfl ?_
      refine px_goto rfl rfl rfl ?_
      refine px_forget (n := 0) (lv' := [_, _, _]) rfl ?_
      refine px_forget (n := 1) (lv' := [_, _, _]) rfl ?_
      refine px_forget (n := 2) (lv' := [_, _, _]) rfl ?_
      exact (r_M_strengthOf_48 h :)
  · replace h := (if_pos hc).symm.trans h
    refine px_ic (k := 0) rfl rfl rfl ?_
    refine px_goto rfl rfl rfl ?_
    refine px_forget (n := 0) (lv' := [_, _, _]) rfl ?_
    refine px_forget (n := 1) (lv' := [_, _, _]) rfl ?_
    refine px_forget (n := 2) (lv' := [_, _, _]) rfl ?_
    exact (r_M_strengthOf_48 h :)
