/-! methods as functions: LinkHouseModel -/
def f_M_placeOf_46 (F : Nat) (a0 : Nat) (a2 : Int32) (ph : px_H) : Option (Int32 × px_H) :=
  (xo ph 12 a0).bind fun _ =>
  xb (f_M_wider F a0 a2 ph) fun t1 ph2 =>
  some (t1, ph2)
theorem r_M_placeOf_46 {l : Launch} {g : px_G} {d F : Nat} {a0 : Nat} {a2 : Int32} {ph : px_H} {r : Int32} {ph' : px_H} (h : f_M_placeOf_46 F a0 a2 ph = some (r, ph')) : PW l g (d + 5) m_M_placeOf 46 [.ref a0, px_u, .int a2, px_u] [] ph (px_qI r ph') := by
  unfold f_M_placeOf_46 at h
  refine px_ld rfl rfl rfl rfl rfl ?_
  refine px_ld rfl rfl rfl rfl rfl ?_
  obtain ⟨fs, h0, h⟩ := xs_some h
  have e1 := xo_some h0
  obtain ⟨t1, ph2, h0, h⟩ := xb_some h
  refine px_cV1 rfl rfl e1 rfl rfl rfl rfl rfl rfl rfl (r_M_wider h0 :) (fun _ _ q => nomatch q.2) (fun r ph' q => ?_)
  obtain ⟨rfl, q⟩ := q
  cases q
  cases h
  exact px_iret rfl (Or.inl rfl) rfl ⟨rfl, rfl⟩
def f_M_placeOf_38 (F : Nat) (k5 : Nat → Int32 → Int32 → Int32 → px_H → Option (Int32 × px_H)) (a0 : Nat) (a1 : Int32) (a3 : Int32) (s0 : Int32) (s1 : Int32) (ph : px_H) : Option (Int32 × px_H) :=
  k5 a0 a1 (s0 + s1) (a3 + nI 1) ph
theorem r_M_placeOf_38 {l : Launch} {g : px_G} {d F : Nat} {k5 : Nat → Int32 → Int32 → Int32 → px_H → Option (Int32 × px_H)} (hk5 : ∀ {a0 : Nat} {a1 : Int32} {a2 : Int32} {a3 : Int32} {ph : px_H} {r : Int32} {ph' : px_H}, k5 a0 a1 a2 a3 ph = some (r, ph') → PW l g (d + 5) m_M_placeOf 5 [.ref a0, .int a1, .int a2, .int a3] [] ph (px_qI r ph')) {a0 : Nat} {a1 : Int32} {a3 : Int32} {s0 : Int32} {s1 : Int32} {ph : px_H} {r : Int32} {ph' : px_H} (h : f_M_placeOf_38 F k5 a0 a1 a3 s0 s1 ph = some (r, ph')) : PW l g (d + 5) m_M_placeOf 38 [.ref a0, .int a1, px_u, .int a3] [.int s1, .int s0] ph (px_qI r ph') := by
  unfold f_M_placeOf_38 at h
  refine px_alu rfl rfl rfl ?_
  refine px_st (lv' := [_, _, _, _]) rfl rfl rfl rfl rfl rfl rfl ?_
  refine px_iinc (lv' := [_, _, _, _]) rfl rfl rfl rfl rfl rfl ?_
  refine px_goto rfl rfl rfl ?_
  exact (hk5 h :)
def f_M_placeOf_5 (F : Nat) : Nat → Nat → Int32 → Int32 → Int32 → px_H → Option (Int32 × px_H)
  | 0, _, _, _, _, _ => none
  | n + 1, a0, a1, a2, a3, ph =>
    if a1 ≤ a3 then
      f_M_placeOf_46 F a0 a2 ph
    else
      (xo ph 12 a0).bind fun _ =>
      xb (f_M_wider F a0 a2 ph) fun t1 ph2 =>
      (xgI ph2 12 123 a0).bind fun t3 =>
      if t3 ≤ a3 then
        (xgI ph2 12 125 a0).bind fun t4 =>
        f_M_placeOf_38 F (f_M_placeOf_5 F n) a0 a1 a3 t1 ((nI 24) * t4) ph2
      else
        (xo ph2 12 a0).bind fun _ =>
        xb (f_M_partSize F a0 a3 ph2) fun t5 ph6 =>
        f_M_placeOf_38 F (f_M_placeOf_5 F n) a0 a1 a3 t1 t5 ph6
theorem r_M_placeOf_5 {l : Launch} {g : px_G} {d F : Nat} : ∀ (n : Nat) {a0 : Nat} {a1 : Int32} {a2 : Int32} {a3 : Int32} {ph : px_H} {r : Int32} {ph' : px_H}, f_M_placeOf_5 F n a0 a1 a2 a3 ph = some (r, ph') → PW l g (d + 5) m_M_placeOf 5 [.ref a0, .int a1, .int a2, .int a3] [] ph (px_qI r ph') := by
  intro n
  induction n with
  | zero => intro _ _ _ _ _ _ _ h; cases h
  | succ n ih =>
    intro a0 a1 a2 a3 ph r ph' h
    unfold f_M_placeOf_5 at h
    refine px_ld rfl rfl rfl rfl rfl ?_
    refine px_ld rfl rfl rfl rfl rfl ?_
    refine px_icge rfl rfl rfl (fun hc => ?_) (fun hc => ?_)
    · replace h := (if_pos hc).symm.trans h
      refine px_forget (n := 1) (lv' := [_, _, _, _]) rfl ?_
      refine px_forget (n := 3) (lv' := [_, _, _, _]) rfl ?_
      exact (r_M_placeOf_46 h :)
    · replace h := (if_neg hc).symm.trans h
      refine px_ld rfl rfl rfl rfl rfl ?_
      refine px_ld rfl rfl rfl rfl rfl ?_
      obtain ⟨fs, h0, h⟩ := xs_some h
      have e1 := xo_some h0
      obtain ⟨t1, ph2, h0, h⟩ := xb_some h
      refine px_cV1 rfl rfl e1 rfl rfl rfl rfl rfl rfl rfl (r_M_wider h0 :) (fun _ _ q => nomatch q.2) (fun r ph' q => ?_)
      obtain ⟨rfl, q⟩ := q
      cases q
      refine px_ld rfl rfl rfl rfl rfl ?_
      refine px_ld rfl rfl rfl rfl rfl ?_
      obtain ⟨t3, h0, h⟩ := xs_some h
      obtain ⟨fs, e1, e2⟩ := xgI_some h0
      refine px_get rfl e1 e2 rfl ?_
      refine px_icge rfl rfl rfl (fun hc => ?_) (fun hc => ?_)
      · replace h := (if_pos hc).symm.trans h
        refine px_ic (k := 24) rfl rfl rfl ?_
        refine px_ld rfl rfl rfl rfl rfl ?_
        obtain ⟨t4, h0, h⟩ := xs_some h
        obtain ⟨fs, e1, e2⟩ := xgI_some h0
        refine px_get rfl e1 e2 rfl ?_
        refine px_alu rfl rfl rfl ?_
        refine px_forget (n := 2) (lv' := [_, _, _, _]) rfl ?_
        exact (r_M_placeOf_38 @ih h :)
      · replace h := (if_neg hc).symm.trans h
        refine px_ld rfl rfl rfl rfl rfl ?_
        refine px_ld rfl rfl rfl rfl rfl ?_
        obtain ⟨fs, h0, h⟩ := xs_some h
        have e1 := xo_some h0
        obtain ⟨t5, ph6, h0, h⟩ := xb_some h
        refine px_cV1 rfl rfl e1 rfl rfl rfl rfl rfl rfl rfl (r_M_partSize h0 :) (fun _ _ q => nomatch q.2) (fun r ph' q => ?_)
        obtain ⟨rfl, q⟩ := q
        cases q
        refine px_goto rfl rfl rfl ?_
        refine px_forget (n := 2) (lv' := [_, _, _, _]) rfl ?_
        exact (r_M_placeOf_38 @ih h :)
def f_M_placeOf (F : Nat) (a0 : Nat) (a1 : Int32) (ph : px_H) : Option (Int32 × px_H) :=
  f_M_placeOf_5 F F a0 a1 (nI 64) (nI 1) ph
theorem r_M_placeOf {l : Launch} {g : px_G} {d F : Nat} {a0 : Nat} {a1 : Int32} {ph : px_H} {r : Int32} {ph' : px_H} (h : f_M_placeOf F a0 a1 ph = some (r, ph')) : PW l g (d + 5) m_M_placeOf 0 [.ref a0, .int a1, px_u, px_u] [] ph (px_qI r ph') := by
  unfold f_M_placeOf at h
  refine px_ic (k := 64) rfl rfl rfl ?_
  refine px_st (lv' := [_, _, _, _]) rfl rfl rfl rfl rfl rfl rfl ?_
  refine px_ic (k := 1) rfl rfl rfl ?_
  refine px_st (lv' := [_, _, _, _]) rfl rfl rfl rfl rfl rfl rfl ?_
  exact (r_M_placeOf_5 _ h :)
def f_M_textMany_29 (F : Nat) (a1 : Int32) (ph : px_H) : Option (Int32 × px_H) :=
  some (a1, ph)
theorem r_M_textMany_29 {l : Launch} {g : px_G} {d F : Nat} {a1 : Int32} {ph : px_H} {r : Int32} {ph' : px_H} (h : f_M_textMany_29 F a1 ph = some (r, ph')) : PW l g (d + 0) m_M_textMany 29 [px_u, .int a1, px_u] [] ph (px_qI r ph') := by
  unfold f_M_textMany_29 at h
  refine px_ld rfl rfl rfl rfl rfl ?_
  cases h
  exact px_iret rfl (Or.inl rfl) rfl ⟨rfl, rfl⟩
def f_M_textMany_4 (F : Nat) : Nat → Nat → Int32 → Int32 → px_H → Option (Int32 × px_H)
  | 0, _, _, _, _ => none
  | n + 1, a0, a1, a2, ph =>
    (xgI ph 12 20 a0).bind fun t1 =>
    if t1 ≤ a2 then
      f_M_textMany_29 F a1 ph
    else
      (xgR ph 12 22 a0).bind fun t2 =>
      (xaI ph 1 t2 a2).bind fun t3 =>
      f_M_textMany_4 F n a0 (a1 + (t3 + (nI 1))) (a2 + nI 1) ph
theorem r_M_textMany_4 {l : Launch} {g : px_G} {d F : Nat} : ∀ (n : Nat) {a0 : Nat} {a1 : Int32} {a2 : Int32} {ph : px_H} {r : Int32} {ph' : px_H}, f_M_textMany_4 F n a0 a1 a2 ph = some (r, ph') → PW l g (d + 0) m_M_textMany 4 [.ref a0, .int a1, .int a2] [] ph (px_qI r ph') := by
  intro n
  induction n with
  | zero => intro _ _ _ _ _ _ h; cases h
  | succ n ih =>
    intro a0 a1 a2 ph r ph' h
    unfold f_M_textMany_4 at h
    refine px_ld rfl rfl rfl rfl rfl ?_
    refine px_ld rfl rfl rfl rfl rfl ?_
    obtain ⟨t1, h0, h⟩ := xs_some h
    obtain ⟨fs, e1, e2⟩ := xgI_some h0
    refine px_get rfl e1 e2 rfl ?_
    refine px_icge rfl rfl rfl (fun hc => ?_) (fun hc => ?_)
    · replace h := (if_pos hc).symm.trans h
      refine px_forget (n := 0) (lv' := [_, _, _]) rfl ?_
      refine px_forget (n := 2) (lv' := [_, _, _]) rfl ?_
      exact (r_M_textMany_29 h :)
    · replace h := (if_neg hc).symm.trans h
      refine px_ld rfl rfl rfl rfl rfl ?_
      refine px_ld rfl rfl rfl rfl rfl ?_
      obtain ⟨t2, h0, h⟩ := xs_some h
      obtain ⟨fs, e1, e2⟩ := xgR_some h0
      refine px_get rfl e1 e2 rfl ?_
      refine px_ld rfl rfl rfl rfl rfl ?_
      obtain ⟨t3, h0, h⟩ := xs_some h
      obtain ⟨N, f, e1, e2, e3⟩ := xaI_some h0
      subst e3
      refine px_iald rfl e1 rfl e2 rfl ?_
      refine px_ic (k := 1) rfl rfl rfl ?_
      refine px_alu rfl rfl rfl ?_
      refine px_alu rfl rfl rfl ?_
      refine px_st (lv' := [_, _, _]) rfl rfl rfl rfl rfl rfl rfl ?_
      refine px_iinc (lv' := [_, _, _]) rfl rfl rfl rfl rfl rfl ?_
      refine px_goto rfl rfl rfl ?_
      exact (ih h :)
def f_M_textMany (F : Nat) (a0 : Nat) (ph : px_H) : Option (Int32 × px_H) :=
  f_M_textMany_4 F F a0 (nI 1) (nI 0) ph
theorem r_M_textMany {l : Launch} {g : px_G} {d F : Nat} {a0 : Nat} {ph : px_H} {r : Int32} {ph' : px_H} (h : f_M_textMany F a0 ph = some (r, ph')) : PW l g (d + 0) m_M_textMany 0 [.ref a0, px_u, px_u] [] ph (px_qI r ph') := by
  unfold f_M_textMany at h
  refine px_ic (k := 1) rfl rfl rfl ?_
  refine px_st (lv' := [_, _, _]) rfl rfl rfl rfl rfl rfl rfl ?_
  refine px_ic (k := 0) rfl rfl rfl ?_
  refine px_st (lv' := [_, _, _]) rfl rfl rfl rfl rfl rfl rfl ?_
  exact (r_M_textMany_4 _ h :)
def f_M_mergedRow (F : Nat) (a0 : Nat) (a1 : Int32) (ph : px_H) : Option (Int32 × px_H) :=
  (xgI ph 12 123 a0).bind fun t1 =>
  (xo ph 12 a0).bind fun _ =>
  xb (f_M_placeOf F a0 (t1 + (nI 1)) ph) fun t2 ph3 =>
  (xo ph3 12 a0).bind fun _ =>
  xb (f_M_textMany F a0 ph3) fun t4 ph5 =>
  (xo ph5 12 a0).bind fun _ =>
  xb (f_M_wider F a0 (t2 + t4) ph5) fun t6 ph7 =>
  some (t6 + ((nI 64) * a1), ph7)
theorem r_M_mergedRow {l : Launch} {g : px_G} {d F : Nat} {a0 : Nat} {a1 : Int32} {ph : px_H} {r : Int32} {ph' : px_H} (h : f_M_mergedRow F a0 a1 ph = some (r, ph')) : PW l g (d + 6) m_M_mergedRow 0 [.ref a0, .int a1] [] ph (px_qI r ph') := by
  unfold f_M_mergedRow at h
  refine px_ld rfl rfl rfl rfl rfl ?_
  refine px_ld rfl rfl rfl rfl rfl ?_
  refine px_ld rfl rfl rfl rfl rfl ?_
  obtain ⟨t1, h0, h⟩ := xs_some h
  obtain ⟨fs, e1, e2⟩ := xgI_some h0
  refine px_get rfl e1 e2 rfl ?_
  refine px_ic (k := 1) rfl rfl rfl ?_
  refine px_alu rfl rfl rfl ?_
  obtain ⟨fs, h0, h⟩ := xs_some h
  have e1 := xo_some h0
  obtain ⟨t2, ph3, h0, h⟩ := xb_some h
  refine px_cV1 rfl rfl e1 rfl rfl rfl rfl rfl rfl rfl (r_M_placeOf h0 :) (fun _ _ q => nomatch q.2) (fun r ph' q => ?_)
  obtain ⟨rfl, q⟩ := q
  cases q
  refine px_ld rfl rfl rfl rfl rfl ?_
  obtain ⟨fs, h0, h⟩ := xs_some h
  have e1 := xo_some h0
  obtain ⟨t4, ph5, h0, h⟩ := xb_some h
  refine px_cV0 rfl rfl e1 rfl rfl rfl rfl rfl rfl rfl (r_M_textMany h0 :) (fun _ _ q => nomatch q.2) (fun r ph' q => ?_)
  obtain ⟨rfl, q⟩ := q
  cases q
  refine px_alu rfl rfl rfl ?_
  obtain ⟨fs, h0, h⟩ := xs_some h
  have e1 := xo_some h0
  obtain ⟨t6, ph7, h0, h⟩ := xb_some h
  refine px_cV1 rfl rfl e1 rfl rfl rfl rfl rfl rfl rfl (r_M_wider h0 :) (fun _ _ q => nomatch q.2) (fun r ph' q => ?_)
  obtain ⟨rfl, q⟩ := q
  cases q
  refine px_ic (k := 64) rfl rfl rfl ?_
  refine px_ld rfl rfl rfl rfl rfl ?_
  refine px_alu rfl rfl rfl ?_
  refine px_alu rfl rfl rfl ?_
  cases h
  exact px_iret rfl (Or.inl rfl) rfl ⟨rfl, rfl⟩
def f_M_mergedRows (F : Nat) (a0 : Nat) (a1 : Int32) (a2 : Int64) (a4 : Int64) (a6 : Int32) (a7 : Int32) (a8 : Int64) (a10 : Int64) (ph : px_H) : Option (Unit × px_H) :=
  (xo ph 12 a0).bind fun _ =>
  xb (f_M_mergedRow F a0 a1 ph) fun t1 ph2 =>
  (xo ph2 12 a0).bind fun _ =>
  xb (f_M_put F a0 (t1 + (nI 4)) a2 (nI 4) ph2) fun _ ph3 =>
  (xo ph3 12 a0).bind fun _ =>
  xb (f_M_placeOf F a0 a1 ph3) fun t4 ph5 =>
  (xo ph5 12 a0).bind fun _ =>
  xb (f_M_put F a0 (t1 + (nI 24)) t4.toInt64 (nI 8) ph5) fun _ ph6 =>
  (xo ph6 12 a0).bind fun _ =>
  xb (f_M_put F a0 (t1 + (nI 32)) a4 (nI 8) ph6) fun _ ph7 =>
  (xo ph7 12 a0).bind fun _ =>
  xb (f_M_put F a0 (t1 + (nI 40)) a6.toInt64 (nI 4) ph7) fun _ ph8 =>
  (xo ph8 12 a0).bind fun _ =>
  xb (f_M_put F a0 (t1 + (nI 44)) a7.toInt64 (nI 4) ph8) fun _ ph9 =>
  (xo ph9 12 a0).bind fun _ =>
  xb (f_M_put F a0 (t1 + (nI 48)) a8 (nI 8) ph9) fun _ ph10 =>
  (xo ph10 12 a0).bind fun _ =>
  xb (f_M_put F a0 (t1 + (nI 56)) a10 (nI 8) ph10) fun _ ph11 =>
  some ((), ph11)
theorem r_M_mergedRows {l : Launch} {g : px_G} {d F : Nat} {a0 : Nat} {a1 : Int32} {a2 : Int64} {a4 : Int64} {a6 : Int32} {a7 : Int32} {a8 : Int64} {a10 : Int64} {ph : px_H} {r : Unit} {ph' : px_H} (h : f_M_mergedRows F a0 a1 a2 a4 a6 a7 a8 a10 ph = some (r, ph')) : PW l g (d + 7) m_M_mergedRows 0 [.ref a0, .int a1, .long a2, px_u, .long a4, px_u, .int a6, .int a7, .long a8, px_u, .long a10, px_u, px_u] [] ph (px_qV r ph') := by
  unfold f_M_mergedRows at h
  refine px_ld rfl rfl rfl rfl rfl ?_
  refine px_ld rfl rfl rfl rfl rfl ?_
  obtain ⟨fs, h0, h⟩ := xs_some h
  have e1 := xo_some h0
  obtain ⟨t1, ph2, h0, h⟩ := xb_some h
  refine px_cV1 rfl rfl e1 rfl rfl rfl rfl rfl rfl rfl (r_M_mergedRow h0 :) (fun _ _ q => nomatch q.2) (fun r ph' q => ?_)
  obtain ⟨rfl, q⟩ := q
  cases q
  refine px_st (lv' := [_, _, _, _, _, _, _, _, _, _, _, _, _]) rfl rfl rfl rfl rfl rfl rfl ?_
  refine px_ld rfl rfl rfl rfl rfl ?_
  refine px_ld rfl rfl rfl rfl rfl ?_
  refine px_ic (k := 4) rfl rfl rfl ?_
  refine px_alu rfl rfl rfl ?_
  refine px_ld rfl rfl rfl rfl rfl ?_
  refine px_ic (k := 4) rfl rfl rfl ?_
  obtain ⟨fs, h0, h⟩ := xs_some h
  have e1 := xo_some h0
  obtain ⟨u0, ph3, h0, h⟩ := xb_some h
  refine px_cV3 rfl rfl e1 rfl rfl rfl rfl rfl rfl rfl (r_M_put h0 :) (fun _ _ q => nomatch q.2) (fun r ph' q => ?_)
  obtain ⟨rfl, q⟩ := q
  cases q
  refine px_ld rfl rfl rfl rfl rfl ?_
  refine px_ld rfl rfl rfl rfl rfl ?_
  refine px_ic (k := 24) rfl rfl rfl ?_
  refine px_alu rfl rfl rfl ?_
  refine px_ld rfl rfl rfl rfl rfl ?_
  refine px_ld rfl rfl rfl rfl rfl ?_
  obtain ⟨fs, h0, h⟩ := xs_some h
  have e1 := xo_some h0
  obtain ⟨t4, ph5, h0, h⟩ := xb_some h
  refine px_cV1 rfl rfl e1 rfl rfl rfl rfl rfl rfl rfl (r_M_placeOf h0 :) (fun _ _ q => nomatch q.2) (fun r ph' q => ?_)
  obtain ⟨rfl, q⟩ := q
  cases q
  refine px_alu rfl rfl rfl ?_
  refine px_ic (k := 8) rfl rfl rfl ?_
  obtain ⟨fs, h0, h⟩ := xs_some h
  have e1 := xo_some h0
  obtain ⟨u0, ph6, h0, h⟩ := xb_some h
  refine px_cV3 rfl rfl e1 rfl rfl rfl rfl rfl rfl rfl (r_M_put h0 :) (fun _ _ q => nomatch q.2) (fun r ph' q => ?_)
  obtain ⟨rfl, q⟩ := q
  cases q
  refine px_ld rfl rfl rfl rfl rfl ?_
  refine px_ld rfl rfl rfl rfl rfl ?_
  refine px_ic (k := 32) rfl rfl rfl ?_
  refine px_alu rfl rfl rfl ?_
  refine px_ld rfl rfl rfl rfl rfl ?_
  refine px_ic (k := 8) rfl rfl rfl ?_
  obtain ⟨fs, h0, h⟩ := xs_some h
  have e1 := xo_some h0
  obtain ⟨u0, ph7, h0, h⟩ := xb_some h
  refine px_cV3 rfl rfl e1 rfl rfl rfl rfl rfl rfl rfl (r_M_put h0 :) (fun _ _ q => nomatch q.2) (fun r ph' q => ?_)
  obtain ⟨rfl, q⟩ := q
  cases q
  refine px_ld rfl rfl rfl rfl rfl ?_
  refine px_ld rfl rfl rfl rfl rfl ?_
  refine px_ic (k := 40) rfl rfl rfl ?_
  refine px_alu rfl rfl rfl ?_
  refine px_ld rfl rfl rfl rfl rfl ?_
  refine px_alu rfl rfl rfl ?_
  refine px_ic (k := 4) rfl rfl rfl ?_
  obtain ⟨fs, h0, h⟩ := xs_some h
  have e1 := xo_some h0
  obtain ⟨u0, ph8, h0, h⟩ := xb_some h
  refine px_cV3 rfl rfl e1 rfl rfl rfl rfl rfl rfl rfl (r_M_put h0 :) (fun _ _ q => nomatch q.2) (fun r ph' q => ?_)
  obtain ⟨rfl, q⟩ := q
  cases q
  refine px_ld rfl rfl rfl rfl rfl ?_
  refine px_ld rfl rfl rfl rfl rfl ?_
  refine px_ic (k := 44) rfl rfl rfl ?_
  refine px_alu rfl rfl rfl ?_
  refine px_ld rfl rfl rfl rfl rfl ?_
  refine px_alu rfl rfl rfl ?_
  refine px_ic (k := 4) rfl rfl rfl ?_
  obtain ⟨fs, h0, h⟩ := xs_some h
  have e1 := xo_some h0
  obtain ⟨u0, ph9, h0, h⟩ := xb_some h
  refine px_cV3 rfl rfl e1 rfl rfl rfl rfl rfl rfl rfl (r_M_put h0 :) (fun _ _ q => nomatch q.2) (fun r ph' q => ?_)
  obtain ⟨rfl, q⟩ := q
  cases q
  refine px_ld rfl rfl rfl rfl rfl ?_
  refine px_ld rfl rfl rfl rfl rfl ?_
  refine px_ic (k := 48) rfl rfl rfl ?_
  refine px_alu rfl rfl rfl ?_
  refine px_ld rfl rfl rfl rfl rfl ?_
  refine px_ic (k := 8) rfl rfl rfl ?_
  obtain ⟨fs, h0, h⟩ := xs_some h
  have e1 := xo_some h0
  obtain ⟨u0, ph10, h0, h⟩ := xb_some h
  refine px_cV3 rfl rfl e1 rfl rfl rfl rfl rfl rfl rfl (r_M_put h0 :) (fun _ _ q => nomatch q.2) (fun r ph' q => ?_)
  obtain ⟨rfl, q⟩ := q
  cases q
  refine px_ld rfl rfl rfl rfl rfl ?_
  refine px_ld rfl rfl rfl rfl rfl ?_
  refine px_ic (k := 56) rfl rfl rfl ?_
  refine px_alu rfl rfl rfl ?_
  refine px_ld rfl rfl rfl rfl rfl ?_
  refine px_ic (k := 8) rfl rfl rfl ?_
  obtain ⟨fs, h0, h⟩ := xs_some h
  have e1 := xo_some h0
  obtain ⟨u0, ph11, h0, h⟩ := xb_some h
  refine px_cV3 rfl rfl e1 rfl rfl rfl rfl rfl rfl rfl (r_M_put h0 :) (fun _ _ q => nomatch q.2) (fun r ph' q => ?_)
  obtain ⟨rfl, q⟩ := q
  cases q
  cases h
  exact px_vret rfl rfl rfl ⟨rfl, rfl⟩
def f_M_mergedSites_222 (F : Nat) (ph : px_H) : Option (Unit × px_H) :=
  some ((), ph)
theorem r_M_mergedSites_222 {l : Launch} {g : px_G} {d F : Nat} {ph : px_H} {r : Unit} {ph' : px_H} (h : f_M_mergedSites_222 F ph = some (r, ph')) : PW l g (d + 8) m_M_mergedSites 222 [px_u, px_u, px_u, px_u, px_u, px_u, px_u] [] ph (px_qV r ph') := by
  unfold f_M_mergedSites_222 at h
  cases h
  exact px_vret rfl rfl rfl ⟨rfl, rfl⟩
def f_M_mergedSites_212 (F : Nat) (k117 : Nat → Int32 → Int32 → Int32 → Int32 → Int32 → px_H → Option (Unit × px_H)) (a0 : Nat) (a1 : Int32) (a2 : Int32) (a3 : Int32) (a4 : Int32) (a5 : Int32) (s0 : Nat) (s1 : Int32) (s2 : Int64) (ph : px_H) : Option (Unit × px_H) :=
  (xo ph 12 s0).bind fun _ =>
  xb (f_M_put F s0 s1 s2 (nI 4) ph) fun _ ph1 =>
  k117 a0 a1 a2 a3 a4 (a5 + nI 1) ph1
theorem r_M_mergedSites_212 {l : Launch} {g : px_G} {d F : Nat} {k117 : Nat → Int32 → Int32 → Int32 → Int32 → Int32 → px_H → Option (Unit × px_H)} (hk117 : ∀ {a0 : Nat} {a1 : Int32} {a2 : Int32} {a3 : Int32} {a4 : Int32} {a5 : Int32} {ph : px_H} {r : Unit} {ph' : px_H}, k117 a0 a1 a2 a3 a4 a5 ph = some (r, ph') → PW l g (d + 8) m_M_mergedSites 117 [.ref a0, .int a1, .int a2, .int a3, .int a4, .int a5, px_u] [] ph (px_qV r ph')) {a0 : Nat} {a1 : Int32} {a2 : Int32} {a3 : Int32} {a4 : Int32} {a5 : Int32} {s0 : Nat} {s1 : Int32} {s2 : Int64} {ph : px_H} {r : Unit} {ph' : px_H} (h : f_M_mergedSites_212 F k117 a0 a1 a2 a3 a4 a5 s0 s1 s2 ph = some (r, ph')) : PW l g (d + 8) m_M_mergedSites 212 [.ref a0, .int a1, .int a2, .int a3, .int a4, .int a5, px_u] [.long s2, .int s1, .ref s0] ph (px_qV r ph') := by
  unfold f_M_mergedSites_212 at h
  refine px_ic (k := 4) rfl rfl rfl ?_
  obtain ⟨fs, h0, h⟩ := xs_some h
  have e1 := xo_some h0
  obtain ⟨u0, ph1, h0, h⟩ := xb_some h
  refine px_cV3 rfl rfl e1 rfl rfl rfl rfl rfl rfl rfl (r_M_put h0 :) (fun _ _ q => nomatch q.2) (fun r ph' q => ?_)
  obtain ⟨rfl, q⟩ := q
  cases q
  refine px_iinc (lv' := [_, _, _, _, _, _, _]) rfl rfl rfl rfl rfl rfl ?_
  refine px_goto rfl (by decide) rfl ?_
  exact (hk117 h :)
def f_M_mergedSites_117 (F : Nat) : Nat → Nat → Int32 → Int32 → Int32 → Int32 → Int32 → px_H → Option (Unit × px_H)
  | 0, _, _, _, _, _, _, _ => none
  | n + 1, a0, a1, a2, a3, a4, a5, ph =>
    (xo ph 12 a0).bind fun _ =>
    xb (f_M_siteMany F a0 a3 a4 ph) fun t1 ph2 =>
    if t1 ≤ a5 then
      f_M_mergedSites_222 F ph2
    else
      (xo ph2 12 a0).bind fun _ =>
      xb (f_M_site F a0 a3 a4 a5 ph2) fun t3 ph4 =>
      (xo ph4 12 a0).bind fun _ =>
      xb (f_M_num F a0 (t3 + (nI 12)) (nI 4) ph4) fun t5 ph6 =>
      (xo ph6 12 a0).bind fun _ =>
      xb (f_M_placeOf F a0 a1 ph6) fun t7 ph8 =>
      if t5.toInt32 = 0 then
        f_M_mergedSites_212 F (f_M_mergedSites_117 F n) a0 a1 a2 a3 a4 a5 a0 ((t7 + ((nI 24) * a5)) + (nI 12)) (lN 0) ph8
      else
        (xo ph8 12 a0).bind fun _ =>
        xb (f_M_bind F a0 a3 t5.toInt32 ph8) fun t9 ph10 =>
        if t9 = 0 then
          (xgR ph10 12 118 a0).bind fun t15 =>
          (xaI ph10 1 t15 (((nI 64) * a2) + t5.toInt32)).bind fun t16 =>
          f_M_mergedSites_212 F (f_M_mergedSites_117 F n) a0 a1 a2 a3 a4 a5 a0 ((t7 + ((nI 24) * a5)) + (nI 12)) t16.toInt64 ph10
        else
          (xgR ph10 12 119 a0).bind fun t11 =>
          (xo ph10 12 a0).bind fun _ =>
          xb (f_M_nameOf F a0 a3 t5.toInt32 ph10) fun t12 ph13 =>
          (xaI ph13 1 t11 t12).bind fun t14 =>
          f_M_mergedSites_212 F (f_M_mergedSites_117 F n) a0 a1 a2 a3 a4 a5 a0 ((t7 + ((nI 24) * a5)) + (nI 12)) t14.toInt64 ph13
theorem r_M_mergedSites_117 {l : Launch} {g : px_G} {d F : Nat} : ∀ (n : Nat) {a0 : Nat} {a1 : Int32} {a2 : Int32} {a3 : Int32} {a4 : Int32} {a5 : Int32} {ph : px_H} {r : Unit} {ph' : px_H}, f_M_mergedSites_117 F n a0 a1 a2 a3 a4 a5 ph = some (r, ph') → PW l g (d + 8) m_M_mergedSites 117 [.ref a0, .int a1, .int a2, .int a3, .int a4, .int a5, px_u] [] ph (px_qV r ph') := by
  intro n
  induction n with
  | zero => intro _ _ _ _ _ _ _ _ _ h; cases h
  | succ n ih =>
    intro a0 a1 a2 a3 a4 a5 ph r ph' h
    unfold f_M_mergedSites_117 at h
    refine px_ld rfl rfl rfl rfl rfl ?_
    refine px_ld rfl rfl rfl rfl rfl ?_
    refine px_ld rfl rfl rfl rfl rfl ?_
    refine px_ld rfl rfl rfl rfl rfl ?_
    obtain ⟨fs, h0, h⟩ := xs_some h
    have e1 := xo_some h0
    obtain ⟨t1, ph2, h0, h⟩ := xb_some h
    refine px_cV2 rfl rfl e1 rfl rfl rfl rfl rfl rfl rfl (r_M_siteMany h0 :) (fun _ _ q => nomatch q.2) (fun r ph' q => ?_)
    obtain ⟨rfl, q⟩ := q
    cases q
    refine px_icge rfl (by decide) rfl (fun hc => ?_) (fun hc => ?_)
    · replace h := (if_pos hc).symm.trans h
      refine px_forget (n := 0) (lv' := [_, _, _, _, _, _, _]) rfl ?_
      refine px_forget (n := 1) (lv' := [_, _, _, _, _, _, _]) rfl ?_
      refine px_forget (n := 2) (lv' := [_, _, _, _, _, _, _]) rfl ?_
      refine px_forget (n := 3) (lv' := [_, _, _, _, _, _, _]) rfl ?_
      refine px_forget (n := 4) (lv' := [_, _, _, _, _, _, _]) rfl ?_
      refine px_forget (n := 5) (lv' := [_, _, _, _, _, _, _]) rfl ?_
      exact (r_M_mergedSites_222 h :)
    · replace h := (if_neg hc).symm.trans h
      refine px_ld rfl rfl rfl rfl rfl ?_
      refine px_ld rfl rfl rfl rfl rfl ?_
      refine px_ld rfl rfl rfl rfl rfl ?_
      refine px_ld rfl rfl rfl rfl rfl ?_
      refine px_ld rfl rfl rfl rfl rfl ?_
      obtain ⟨fs, h0, h⟩ := xs_some h
      have e1 := xo_some h0
      obtain ⟨t3, ph4, h0, h⟩ := xb_some h
      refine px_cV3 rfl rfl e1 rfl rfl rfl rfl rfl rfl rfl (r_M_site h0 :) (fun _ _ q => nomatch q.2) (fun r ph' q => ?_)
      obtain ⟨rfl, q⟩ := q
      cases q
      refine px_ic (k := 12) rfl rfl rfl ?_
      refine px_alu rfl rfl rfl ?_
      refine px_ic (k := 4) rfl rfl rfl ?_
      obtain ⟨fs, h0, h⟩ := xs_some h
      have e1 := xo_some h0
      obtain ⟨t5, ph6, h0, h⟩ := xb_some h
      refine px_cV2 rfl rfl e1 rfl rfl rfl rfl rfl rfl rfl (r_M_num h0 :) (fun _ _ q => nomatch q.2) (fun r ph' q => ?_)
      obtain ⟨rfl, q⟩ := q
      cases q
      refine px_alu rfl rfl rfl ?_
      refine px_st (lv' := [_, _, _, _, _, _, _]) rfl rfl rfl rfl rfl rfl rfl ?_
      refine px_ld rfl rfl rfl rfl rfl ?_
      refine px_ld rfl rfl rfl rfl rfl ?_
      refine px_ld rfl rfl rfl rfl rfl ?_
      obtain ⟨fs, h0, h⟩ := xs_some h
      have e1 := xo_some h0
      obtain ⟨t7, ph8, h0, h⟩ := xb_some h
      refine px_cV1 rfl rfl e1 rfl rfl rfl rfl rfl rfl rfl (r_M_placeOf h0 :) (fun _ _ q => nomatch q.2) (fun r ph' q => ?_)
      obtain ⟨rfl, q⟩ := q
      cases q
      refine px_ic (k := 24) rfl rfl rfl ?_
      refine px_ld rfl rfl rfl rfl rfl ?_
      refine px_alu rfl rfl rfl ?_
      refine px_alu rfl rfl rfl ?_
      refine px_ic (k := 12) rfl rfl rfl ?_
      refine px_alu rfl rfl rfl ?_
      refine px_ld rfl rfl rfl rfl rfl ?_
      refine px_ifne rfl (by decide) rfl (fun hc => ?_) (fun hc => ?_)
      · replace h := (if_neg hc).symm.trans h
        refine px_ld rfl rfl rfl rfl rfl ?_
        refine px_ld rfl rfl rfl rfl rfl ?_
        refine px_ld rfl rfl rfl rfl rfl ?_
        obtain ⟨fs, h0, h⟩ := xs_some h
        have e1 := xo_some h0
        obtain ⟨t9, ph10, h0, h⟩ := xb_some h
        refine px_cV2 rfl rfl e1 rfl rfl rfl rfl rfl rfl rfl (r_M_bind h0 :) (fun _ _ q => nomatch q.2) (fun r ph' q => ?_)
        obtain ⟨rfl, q⟩ := q
        cases q
        refine px_ifne rfl (by decide) rfl (fun hc => ?_) (fun hc => ?_)
        · replace h := (if_neg hc).symm.trans h
          refine px_ld rfl rfl rfl rfl rfl ?_
          obtain ⟨t11, h0, h⟩ := xs_some h
          obtain ⟨fs, e1, e2⟩ := xgR_some h0
          refine px_get rfl e1 e2 rfl ?_
          refine px_ld rfl rfl rfl rfl rfl ?_
          refine px_ld rfl rfl rfl rfl rfl ?_
          refine px_ld rfl rfl rfl rfl rfl ?_
          obtain ⟨fs, h0, h⟩ := xs_some h
          have e1 := xo_some h0
          obtain ⟨t12, ph13, h0, h⟩ := xb_some h
          refine px_cV2 rfl rfl e1 rfl rfl rfl rfl rfl rfl rfl (r_M_nameOf h0 :) (fun _ _ q => nomatch q.2) (fun r ph' q => ?_)
          obtain ⟨rfl, q⟩ := q
          cases q
          obtain ⟨t14, h0, h⟩ := xs_some h
          obtain ⟨N, f, e1, e2, e3⟩ := xaI_some h0
          subst e3
          refine px_iald rfl e1 rfl e2 rfl ?_
          refine px_alu rfl rfl rfl ?_
          refine px_forget (n := 6) (lv' := [_, _, _, _, _, _, _]) rfl ?_
          exact (r_M_mergedSites_212 @ih h :)
        · replace h := (if_pos hc).symm.trans h
          refine px_ld rfl rfl rfl rfl rfl ?_
          obtain ⟨t15, h0, h⟩ := xs_some h
          obtain ⟨fs, e1, e2⟩ := xgR_some h0
          refine px_get rfl e1 e2 rfl ?_
          refine px_ic (k := 64) rfl rfl rfl ?_
          refine px_ld rfl rfl rfl rfl rfl ?_
          refine px_alu rfl rfl rfl ?_
          refine px_ld rfl rfl rfl rfl rfl ?_
          refine px_alu rfl rfl rfl ?_
          obtain ⟨t16, h0, h⟩ := xs_some h
          obtain ⟨N, f, e1, e2, e3⟩ := xaI_some h0
          subst e3
          refine px_iald rfl e1 rfl e2 rfl ?_
          refine px_alu rfl rfl rfl ?_
          refine px_goto rfl (by decide) rfl ?_
          refine px_forget (n := 6) (lv' := [_, _, _, _, _, _, _]) rfl ?_
          exact (r_M_mergedSites_212 @ih h :)
      · replace h := (if_pos hc).symm.trans h
        refine px_alu rfl rfl rfl ?_
        refine px_goto rfl (by decide) rfl ?_
        refine px_forget (n := 6) (lv' := [_, _, _, _, _, _, _]) rfl ?_
        exact (r_M_mergedSites_212 @ih h :)
def f_M_mergedSites_114 (F : Nat) (a0 : Nat) (a1 : Int32) (a2 : Int32) (a3 : Int32) (a4 : Int32) (ph : px_H) : Option (Unit × px_H) :=
  f_M_mergedSites_117 F F a0 a1 a2 a3 a4 (nI 0) ph
theorem r_M_mergedSites_114 {l : Launch} {g : px_G} {d F : Nat} {a0 : Nat} {a1 : Int32} {a2 : Int32} {a3 : Int32} {a4 : Int32} {ph : px_H} {r : Unit} {ph' : px_H} (h : f_M_mergedSites_114 F a0 a1 a2 a3 a4 ph = some (r, ph')) : PW l g (d + 8) m_M_mergedSites 114 [.ref a0, .int a1, .int a2, .int a3, .int a4, px_u, px_u] [] ph (px_qV r ph') := by
  unfold f_M_mergedSites_114 at h
  refine px_ic (k := 0) rfl rfl rfl ?_
  refine px_st (lv' := [_, _, _, _, _, _, _]) rfl rfl rfl rfl rfl rfl rfl ?_
  exact (r_M_mergedSites_117 _ h :)
def f_M_mergedSites_67 (F : Nat) : Nat → Nat → Int32 → Int32 → Int32 → Int32 → Int32 → px_H → Option (Unit × px_H)
  | 0, _, _, _, _, _, _, _ => none
  | n + 1, a0, a1, a2, a3, a4, a5, ph =>
    (xo ph 12 a0).bind fun _ =>
    xb (f_M_partSize F a0 a1 ph) fun t1 ph2 =>
    if t1 ≤ a5 then
      f_M_mergedSites_114 F a0 a1 a2 a3 a4 ph2
    else
      (xgR ph2 12 3 a0).bind fun t3 =>
      (xo ph2 12 a0).bind fun _ =>
      xb (f_M_placeOf F a0 a1 ph2) fun t4 ph5 =>
      (xgR ph5 12 6 a0).bind fun t6 =>
      (xo ph5 12 a0).bind fun _ =>
      xb (f_M_beginning F a0 a3 a4 ph5) fun t7 ph8 =>
      (xaI ph8 0 t6 ((a3 + t7.toInt32) + a5)).bind fun t9 =>
      (xsI ph8 0 t3 (t4 + a5) (t9.toInt8.toInt32)).bind fun ph10 =>
      f_M_mergedSites_67 F n a0 a1 a2 a3 a4 (a5 + nI 1) ph10
theorem r_M_mergedSites_67 {l : Launch} {g : px_G} {d F : Nat} : ∀ (n : Nat) {a0 : Nat} {a1 : Int32} {a2 : Int32} {a3 : Int32} {a4 : Int32} {a5 : Int32} {ph : px_H} {r : Unit} {ph' : px_H}, f_M_mergedSites_67 F n a0 a1 a2 a3 a4 a5 ph = some (r, ph') → PW l g (d + 8) m_M_mergedSites 67 [.ref a0, .int a1, .int a2, .int a3, .int a4, .int a5, px_u] [] ph (px_qV r ph') := by
  intro n
  induction n with
  | zero => intro _ _ _ _ _ _ _ _ _ h; cases h
  | succ n ih =>
    intro a0 a1 a2 a3 a4 a5 ph r ph' h
    unfold f_M_mergedSites_67 at h
    refine px_ld rfl rfl rfl rfl rfl ?_
    refine px_ld rfl rfl rfl rfl rfl ?_
    refine px_ld rfl rfl rfl rfl rfl ?_
    obtain ⟨fs, h0, h⟩ := xs_some h
    have e1 := xo_some h0
    obtain ⟨t1, ph2, h0, h⟩ := xb_some h
    refine px_cV1 rfl rfl e1 rfl rfl rfl rfl rfl rfl rfl (r_M_partSize h0 :) (fun _ _ q => nomatch q.2) (fun r ph' q => ?_)
    obtain ⟨rfl, q⟩ := q
    cases q
    refine px_icge rfl (by decide) rfl (fun hc => ?_) (fun hc => ?_)
    · replace h := (if_pos hc).symm.trans h
      refine px_forget (n := 5) (lv' := [_, _, _, _, _, _, _]) rfl ?_
      exact (r_M_mergedSites_114 h :)
    · replace h := (if_neg hc).symm.trans h
      refine px_ld rfl rfl rfl rfl rfl ?_
      obtain ⟨t3, h0, h⟩ := xs_some h
      obtain ⟨fs, e1, e2⟩ := xgR_some h0
      refine px_get rfl e1 e2 rfl ?_
      refine px_ld rfl rfl rfl rfl rfl ?_
      refine px_ld rfl rfl rfl rfl rfl ?_
      obtain ⟨fs, h0, h⟩ := xs_some h
      have e1 := xo_some h0
      obtain ⟨t4, ph5, h0, h⟩ := xb_some h
      refine px_cV1 rfl rfl e1 rfl rfl rfl rfl rfl rfl rfl (r_M_placeOf h0 :) (fun _ _ q => nomatch q.2) (fun r ph' q => ?_)
      obtain ⟨rfl, q⟩ := q
      cases q
      refine px_ld rfl rfl rfl rfl rfl ?_
      refine px_alu rfl rfl rfl ?_
      refine px_ld rfl rfl rfl rfl rfl ?_
      obtain ⟨t6, h0, h⟩ := xs_some h
      obtain ⟨fs, e1, e2⟩ := xgR_some h0
      refine px_get rfl e1 e2 rfl ?_
      refine px_ld rfl rfl rfl rfl rfl ?_
      refine px_ld rfl rfl rfl rfl rfl ?_
      refine px_ld rfl rfl rfl rfl rfl ?_
      refine px_ld rfl rfl rfl rfl rfl ?_
      obtain ⟨fs, h0, h⟩ := xs_some h
      have e1 := xo_some h0
      obtain ⟨t7, ph8, h0, h⟩ := xb_some h
      refine px_cV2 rfl rfl e1 rfl rfl rfl rfl rfl rfl rfl (r_M_beginning h0 :) (fun _ _ q => nomatch q.2) (fun r ph' q => ?_)
      obtain ⟨rfl, q⟩ := q
      cases q
      refine px_alu rfl rfl rfl ?_
      refine px_alu rfl rfl rfl ?_
      refine px_ld rfl rfl rfl rfl rfl ?_
      refine px_alu rfl rfl rfl ?_
      obtain ⟨t9, h0, h⟩ := xs_some h
      obtain ⟨N, f, e1, e2, e3⟩ := xaI_some h0
      subst e3
      refine px_bald rfl e1 rfl e2 rfl ?_
      obtain ⟨ph10, h0, h⟩ := xs_some h
      obtain ⟨N, f, e1, e2, e3⟩ := xsI_some h0
      subst e3
      refine px_bast rfl e1 rfl e2 rfl ?_
      refine px_iinc (lv' := [_, _, _, _, _, _, _]) rfl rfl rfl rfl rfl rfl ?_
      refine px_goto rfl (by decide) rfl ?_
      exact (ih h :)
def f_M_mergedSites (F : Nat) (a0 : Nat) (a1 : Int32) (ph : px_H) : Option (Unit × px_H) :=
  (xgR ph 12 120 a0).bind fun t1 =>
  (xaI ph 1 t1 a1).bind fun t2 =>
  (xo ph 12 a0).bind fun _ =>
  xb (f_M_object F a0 t2 ph) fun t3 ph4 =>
  (xgR ph4 12 121 a0).bind fun t5 =>
  (xaI ph4 1 t5 a1).bind fun t6 =>
  (xo ph4 12 a0).bind fun _ =>
  xb (f_M_size F a0 t3 t6 ph4) fun t7 ph8 =>
  (xgI ph8 12 123 a0).bind fun t9 =>
  (xgR ph8 12 117 a0).bind fun t10 =>
  (xo ph8 12 a0).bind fun _ =>
  xb (f_M_info F a0 t3 t6 ph8) fun t11 ph12 =>
  (xaI ph12 1 t10 (((nI 24) * t2) + t11.toInt32)).bind fun t13 =>
  (xo ph12 12 a0).bind fun _ =>
  xb (f_M_mergedRows F a0 a1 ((4 : Int64)) t7 t9 t13 ((8 : Int64)) ((24 : Int64)) ph12) fun _ ph14 =>
  f_M_mergedSites_67 F F a0 a1 t2 t3 t6 (nI 0) ph14
theorem r_M_mergedSites {l : Launch} {g : px_G} {d F : Nat} {a0 : Nat} {a1 : Int32} {ph : px_H} {r : Unit} {ph' : px_H} (h : f_M_mergedSites F a0 a1 ph = some (r, ph')) : PW l g (d + 8) m_M_mergedSites 0 [.ref a0, .int a1, px_u, px_u, px_u, px_u, px_u] [] ph (px_qV r ph') := by
  unfold f_M_mergedSites at h
  refine px_ld rfl rfl rfl rfl rfl ?_
  obtain ⟨t1, h0, h⟩ := xs_some h
  obtain ⟨fs, e1, e2⟩ := xgR_some h0
  refine px_get rfl e1 e2 rfl ?_
  refine px_ld rfl rfl rfl rfl rfl ?_
  obtain ⟨t2, h0, h⟩ := xs_some h
  obtain ⟨N, f, e1, e2, e3⟩ := xaI_some h0
  subst e3
  refine px_iald rfl e1 rfl e2 rfl ?_
  refine px_st (lv' := [_, _, _, _, _, _, _]) rfl rfl rfl rfl rfl rfl rfl ?_
  refine px_ld rfl rfl rfl rfl rfl ?_
  refine px_ld rfl rfl rfl rfl rfl ?_
  obtain ⟨fs, h0, h⟩ := xs_some h
  have e1 := xo_some h0
  obtain ⟨t3, ph4, h0, h⟩ := xb_some h
  refine px_cV1 rfl rfl e1 rfl rfl rfl rfl rfl rfl rfl (r_M_object h0 :) (fun _ _ q => nomatch q.2) (fun r ph' q => ?_)
  obtain ⟨rfl, q⟩ := q
  cases q
  refine px_st (lv' := [_, _, _, _, _, _, _]) rfl rfl rfl rfl rfl rfl rfl ?_
  refine px_ld rfl rfl rfl rfl rfl ?_
  obtain ⟨t5, h0, h⟩ := xs_some h
  obtain ⟨fs, e1, e2⟩ := xgR_some h0
  refine px_get rfl e1 e2 rfl ?_
  refine px_ld rfl rfl rfl rfl rfl ?_
  obtain ⟨t6, h0, h⟩ := xs_some h
  obtain ⟨N, f, e1, e2, e3⟩ := xaI_some h0
  subst e3
  refine px_iald rfl e1 rfl e2 rfl ?_
  refine px_st (lv' := [_, _, _, _, _, _, _]) rfl rfl rfl rfl rfl rfl rfl ?_
  refine px_ld rfl rfl rfl rfl rfl ?_
  refine px_ld rfl rfl rfl rfl rfl ?_
  refine px_ldc2 rfl rfl rfl ?_
  refine px_ld rfl rfl rfl rfl rfl ?_
  refine px_ld rfl rfl rfl rfl rfl ?_
  refine px_ld rfl rfl rfl rfl rfl ?_
  obtain ⟨fs, h0, h⟩ := xs_some h
  have e1 := xo_some h0
  obtain ⟨t7, ph8, h0, h⟩ := xb_some h
  refine px_cV2 rfl rfl e1 rfl rfl rfl rfl rfl rfl rfl (r_M_size h0 :) (fun _ _ q => nomatch q.2) (fun r ph' q => ?_)
  obtain ⟨rfl, q⟩ := q
  cases q
  refine px_ld rfl rfl rfl rfl rfl ?_
  obtain ⟨t9, h0, h⟩ := xs_some h
  obtain ⟨fs, e1, e2⟩ := xgI_some h0
  refine px_get rfl e1 e2 rfl ?_
  refine px_ld rfl rfl rfl rfl rfl ?_
  obtain ⟨t10, h0, h⟩ := xs_some h
  obtain ⟨fs, e1, e2⟩ := xgR_some h0
  refine px_get rfl e1 e2 rfl ?_
  refine px_ic (k := 24) rfl rfl rfl ?_
  refine px_ld rfl rfl rfl rfl rfl ?_
  refine px_alu rfl rfl rfl ?_
  refine px_ld rfl rfl rfl rfl rfl ?_
  refine px_ld rfl rfl rfl rfl rfl ?_
  refine px_ld rfl rfl rfl rfl rfl ?_
  obtain ⟨fs, h0, h⟩ := xs_some h
  have e1 := xo_some h0
  obtain ⟨t11, ph12, h0, h⟩ := xb_some h
  refine px_cV2b rfl rfl e1 rfl rfl rfl rfl rfl rfl rfl rfl (r_M_info h0 :) (fun _ _ q => nomatch q.2) (fun r ph' q => ?_)
  obtain ⟨rfl, q⟩ := q
  cases q
  refine px_alu rfl rfl rfl ?_
  refine px_alu rfl rfl rfl ?_
  obtain ⟨t13, h0, h⟩ := xs_some h
  obtain ⟨N, f, e1, e2, e3⟩ := xaI_some h0
  subst e3
  refine px_iald rfl e1 rfl e2 rfl ?_
  refine px_ldc2 rfl rfl rfl ?_
  refine px_ldc2 rfl rfl rfl ?_
  obtain ⟨fs, h0, h⟩ := xs_some h
  have e1 := xo_some h0
  obtain ⟨u0, ph14, h0, h⟩ := xb_some h
  refine px_cV7 rfl rfl e1 rfl rfl rfl rfl rfl rfl rfl (r_M_mergedRows h0 :) (fun _ _ q => nomatch q.2) (fun r ph' q => ?_)
  obtain ⟨rfl, q⟩ := q
  cases q
  refine px_ic (k := 0) rfl rfl rfl ?_
  refine px_st (lv' := [_, _, _, _, _, _, _]) rfl rfl rfl rfl rfl rfl rfl ?_
  exact (r_M_mergedSites_67 _ h :)
def f_M_mergedSection_113 (F : Nat) (ph : px_H) : Option (Unit × px_H) :=
  some ((), ph)
theorem r_M_mergedSection_113 {l : Launch} {g : px_G} {d F : Nat} {ph : px_H} {r : Unit} {ph' : px_H} (h : f_M_mergedSection_113 F ph = some (r, ph')) : PW l g (d + 8) m_M_mergedSection 113 [px_u, px_u, px_u, px_u, px_u] [] ph (px_qV r ph') := by
  unfold f_M_mergedSection_113 at h
  cases h
  exact px_vret rfl rfl rfl ⟨rfl, rfl⟩
def f_M_mergedSection_67 (F : Nat) : Nat → Nat → Int32 → Int32 → Int32 → Int32 → px_H → Option (Unit × px_H)
  | 0, _, _, _, _, _, _ => none
  | n + 1, a0, a1, a2, a3, a4, ph =>
    (xo ph 12 a0).bind fun _ =>
    xb (f_M_partSize F a0 a1 ph) fun t1 ph2 =>
    if t1 ≤ a4 then
      f_M_mergedSection_113 F ph2
    else
      (xgR ph2 12 3 a0).bind fun t3 =>
      (xo ph2 12 a0).bind fun _ =>
      xb (f_M_placeOf F a0 a1 ph2) fun t4 ph5 =>
      (xgR ph5 12 6 a0).bind fun t6 =>
      (xo ph5 12 a0).bind fun _ =>
      xb (f_M_beginning F a0 a2 a3 ph5) fun t7 ph8 =>
      (xaI ph8 0 t6 ((a2 + t7.toInt32) + a4)).bind fun t9 =>
      (xsI ph8 0 t3 (t4 + a4) (t9.toInt8.toInt32)).bind fun ph10 =>
      f_M_mergedSection_67 F n a0 a1 a2 a3 (a4 + nI 1) ph10
theorem r_M_mergedSection_67 {l : Launch} {g : px_G} {d F : Nat} : ∀ (n : Nat) {a0 : Nat} {a1 : Int32} {a2 : Int32} {a3 : Int32} {a4 : Int32} {ph : px_H} {r : Unit} {ph' : px_H}, f_M_mergedSection_67 F n a0 a1 a2 a3 a4 ph = some (r, ph') → PW l g (d + 8) m_M_mergedSection 67 [.ref a0, .int a1, .int a2, .int a3, .int a4] [] ph (px_qV r ph') := by
  intro n
  induction n with
  | zero => intro _ _ _ _ _ _ _ _ h; cases h
  | succ n ih =>
    intro a0 a1 a2 a3 a4 ph r ph' h
    unfold f_M_mergedSection_67 at h
    refine px_ld rfl rfl rfl rfl rfl ?_
    refine px_ld rfl rfl rfl rfl rfl ?_
    refine px_ld rfl rfl rfl rfl rfl ?_
    obtain ⟨fs, h0, h⟩ := xs_some h
    have e1 := xo_some h0
    obtain ⟨t1, ph2, h0, h⟩ := xb_some h
    refine px_cV1 rfl rfl e1 rfl rfl rfl rfl rfl rfl rfl (r_M_partSize h0 :) (fun _ _ q => nomatch q.2) (fun r ph' q => ?_)
    obtain ⟨rfl, q⟩ := q
    cases q
    refine px_icge rfl (by decide) rfl (fun hc => ?_) (fun hc => ?_)
    · replace h := (if_pos hc).symm.trans h
      refine px_forget (n := 0) (lv' := [_, _, _, _, _]) rfl ?_
      refine px_forget (n := 1) (lv' := [_, _, _, _, _]) rfl ?_
      refine px_forget (n := 2) (lv' := [_, _, _, _, _]) rfl ?_
      refine px_forget (n := 3) (lv' := [_, _, _, _, _]) rfl ?_
      refine px_forget (n := 4) (lv' := [_, _, _, _, _]) rfl ?_
      exact (r_M_mergedSection_113 h :)
    · replace h := (if_neg hc).symm.trans h
      refine px_ld rfl rfl rfl rfl rfl ?_
      obtain ⟨t3, h0, h⟩ := xs_some h
      obtain ⟨fs, e1, e2⟩ := xgR_some h0
      refine px_get rfl e1 e2 rfl ?_
      refine px_ld rfl rfl rfl rfl rfl ?_
      refine px_ld rfl rfl rfl rfl rfl ?_
      obtain ⟨fs, h0, h⟩ := xs_some h
      have e1 := xo_some h0
      obtain ⟨t4, ph5, h0, h⟩ := xb_some h
      refine px_cV1 rfl rfl e1 rfl rfl rfl rfl rfl rfl rfl (r_M_placeOf h0 :) (fun _ _ q => nomatch q.2) (fun r ph' q => ?_)
      obtain ⟨rfl, q⟩ := q
      cases q
      refine px_ld rfl rfl rfl rfl rfl ?_
      refine px_alu rfl rfl rfl ?_
      refine px_ld rfl rfl rfl rfl rfl ?_
      obtain ⟨t6, h0, h⟩ := xs_some h
      obtain ⟨fs, e1, e2⟩ := xgR_some h0
      refine px_get rfl e1 e2 rfl ?_
      refine px_ld rfl rfl rfl rfl rfl ?_
      refine px_ld rfl rfl rfl rfl rfl ?_
      refine px_ld rfl rfl rfl rfl rfl ?_
      refine px_ld rfl rfl rfl rfl rfl ?_
      obtain ⟨fs, h0, h⟩ := xs_some h
      have e1 := xo_some h0
      obtain ⟨t7, ph8, h0, h⟩ := xb_some h
      refine px_cV2 rfl rfl e1 rfl rfl rfl rfl rfl rfl rfl (r_M_beginning h0 :) (fun _ _ q => nomatch q.2) (fun r ph' q => ?_)
      obtain ⟨rfl, q⟩ := q
      cases q
      refine px_alu rfl rfl rfl ?_
      refine px_alu rfl rfl rfl ?_
      refine px_ld rfl rfl rfl rfl rfl ?_
      refine px_alu rfl rfl rfl ?_
      obtain ⟨t9, h0, h⟩ := xs_some h
      obtain ⟨N, f, e1, e2, e3⟩ := xaI_some h0
      subst e3
      refine px_bald rfl e1 rfl e2 rfl ?_
      obtain ⟨ph10, h0, h⟩ := xs_some h
      obtain ⟨N, f, e1, e2, e3⟩ := xsI_some h0
      subst e3
      refine px_bast rfl e1 rfl e2 rfl ?_
      refine px_iinc (lv' := [_, _, _, _, _]) rfl rfl rfl rfl rfl rfl ?_
      refine px_goto rfl (by decide) rfl ?_
      exact (ih h :)
def f_M_mergedSection (F : Nat) (a0 : Nat) (a1 : Int32) (ph : px_H) : Option (Unit × px_H) :=
  (xgR ph 12 120 a0).bind fun t1 =>
  (xaI ph 1 t1 a1).bind fun t2 =>
  (xo ph 12 a0).bind fun _ =>
  xb (f_M_object F a0 t2 ph) fun t3 ph4 =>
  (xgR ph4 12 121 a0).bind fun t5 =>
  (xaI ph4 1 t5 a1).bind fun t6 =>
  (xo ph4 12 a0).bind fun _ =>
  xb (f_M_type F a0 t3 t6 ph4) fun t7 ph8 =>
  (xo ph8 12 a0).bind fun _ =>
  xb (f_M_size F a0 t3 t6 ph8) fun t9 ph10 =>
  (xo ph10 12 a0).bind fun _ =>
  xb (f_M_align F a0 t3 t6 ph10) fun t11 ph12 =>
  (xo ph12 12 a0).bind fun _ =>
  xb (f_M_mergedRows F a0 a1 t7 t9 (nI 0) (nI 0) t11 (lN 0) ph12) fun _ ph13 =>
  (xo ph13 12 a0).bind fun _ =>
  xb (f_M_mergedRow F a0 a1 ph13) fun t14 ph15 =>
  (xo ph15 12 a0).bind fun _ =>
  xb (f_M_flagsOf F a0 t3 t6 ph15) fun t16 ph17 =>
  (xo ph17 12 a0).bind fun _ =>
  xb (f_M_put F a0 (t14 + (nI 8)) t16 (nI 8) ph17) fun _ ph18 =>
  f_M_mergedSection_67 F F a0 a1 t3 t6 (nI 0) ph18
theorem r_M_mergedSection {l : Launch} {g : px_G} {d F : Nat} {a0 : Nat} {a1 : Int32} {ph : px_H} {r : Unit} {ph' : px_H} (h : f_M_mergedSection F a0 a1 ph = some (r, ph')) : PW l g (d + 8) m_M_mergedSection 0 [.ref a0, .int a1, px_u, px_u, px_u] [] ph (px_qV r ph') := by
  unfold f_M_mergedSection at h
  refine px_ld rfl rfl rfl rfl rfl ?_
  refine px_ld rfl rfl rfl rfl rfl ?_
  obtain ⟨t1, h0, h⟩ := xs_some h
  obtain ⟨fs, e1, e2⟩ := xgR_some h0
  refine px_get rfl e1 e2 rfl ?_
  refine px_ld rfl rfl rfl rfl rfl ?_
  obtain ⟨t2, h0, h⟩ := xs_some h
  obtain ⟨N, f, e1, e2, e3⟩ := xaI_some h0
  subst e3
  refine px_iald rfl e1 rfl e2 rfl ?_
  obtain ⟨fs, h0, h⟩ := xs_some h
  have e1 := xo_some h0
  obtain ⟨t3, ph4, h0, h⟩ := xb_some h
  refine px_cV1 rfl rfl e1 rfl rfl rfl rfl rfl rfl rfl (r_M_object h0 :) (fun _ _ q => nomatch q.2) (fun r ph' q => ?_)
  obtain ⟨rfl, q⟩ := q
  cases q
  refine px_st (lv' := [_, _, _, _, _]) rfl rfl rfl rfl rfl rfl rfl ?_
  refine px_ld rfl rfl rfl rfl rfl ?_
  obtain ⟨t5, h0, h⟩ := xs_some h
  obtain ⟨fs, e1, e2⟩ := xgR_some h0
  refine px_get rfl e1 e2 rfl ?_
  refine px_ld rfl rfl rfl rfl rfl ?_
  obtain ⟨t6, h0, h⟩ := xs_some h
  obtain ⟨N, f, e1, e2, e3⟩ := xaI_some h0
  subst e3
  refine px_iald rfl e1 rfl e2 rfl ?_
  refine px_st (lv' := [_, _, _, _, _]) rfl rfl rfl rfl rfl rfl rfl ?_
  refine px_ld rfl rfl rfl rfl rfl ?_
  refine px_ld rfl rfl rfl rfl rfl ?_
  refine px_ld rfl rfl rfl rfl rfl ?_
  refine px_ld rfl rfl rfl rfl rfl ?_
  refine px_ld rfl rfl rfl rfl rfl ?_
  obtain ⟨fs, h0, h⟩ := xs_some h
  have e1 := xo_some h0
  obtain ⟨t7, ph8, h0, h⟩ := xb_some h
  refine px_cV2 rfl rfl e1 rfl rfl rfl rfl rfl rfl rfl (r_M_type h0 :) (fun _ _ q => nomatch q.2) (fun r ph' q => ?_)
  obtain ⟨rfl, q⟩ := q
  cases q
  refine px_ld rfl rfl rfl rfl rfl ?_
  refine px_ld rfl rfl rfl rfl rfl ?_
  refine px_ld rfl rfl rfl rfl rfl ?_
  obtain ⟨fs, h0, h⟩ := xs_some h
  have e1 := xo_some h0
  obtain ⟨t9, ph10, h0, h⟩ := xb_some h
  refine px_cV2 rfl rfl e1 rfl rfl rfl rfl rfl rfl rfl (r_M_size h0 :) (fun _ _ q => nomatch q.2) (fun r ph' q => ?_)
  obtain ⟨rfl, q⟩ := q
  cases q
  refine px_ic (k := 0) rfl rfl rfl ?_
  refine px_ic (k := 0) rfl rfl rfl ?_
  refine px_ld rfl rfl rfl rfl rfl ?_
  refine px_ld rfl rfl rfl rfl rfl ?_
  refine px_ld rfl rfl rfl rfl rfl ?_
  obtain ⟨fs, h0, h⟩ := xs_some h
  have e1 := xo_some h0
  obtain ⟨t11, ph12, h0, h⟩ := xb_some h
  refine px_cV2 rfl rfl e1 rfl rfl rfl rfl rfl rfl rfl (r_M_align h0 :) (fun _ _ q => nomatch q.2) (fun r ph' q => ?_)
  obtain ⟨rfl, q⟩ := q
  cases q
  refine px_alu rfl rfl rfl ?_
  obtain ⟨fs, h0, h⟩ := xs_some h
  have e1 := xo_some h0
  obtain ⟨u0, ph13, h0, h⟩ := xb_some h
  refine px_cV7 rfl rfl e1 rfl rfl rfl rfl rfl rfl rfl (r_M_mergedRows h0 :) (fun _ _ q => nomatch q.2) (fun r ph' q => ?_)
  obtain ⟨rfl, q⟩ := q
  cases q
  refine px_ld rfl rfl rfl rfl rfl ?_
  refine px_ld rfl rfl rfl rfl rfl ?_
  refine px_ld rfl rfl rfl rfl rfl ?_
  obtain ⟨fs, h0, h⟩ := xs_some h
  have e1 := xo_some h0
  obtain ⟨t14, ph15, h0, h⟩ := xb_some h
  refine px_cV1 rfl rfl e1 rfl rfl rfl rfl rfl rfl rfl (r_M_mergedRow h0 :) (fun _ _ q => nomatch q.2) (fun r ph' q => ?_)
  obtain ⟨rfl, q⟩ := q
  cases q
  refine px_ic (k := 8) rfl rfl rfl ?_
  refine px_alu rfl rfl rfl ?_
  refine px_ld rfl rfl rfl rfl rfl ?_
  refine px_ld rfl rfl rfl rfl rfl ?_
  refine px_ld rfl rfl rfl rfl rfl ?_
  obtain ⟨fs, h0, h⟩ := xs_some h
  have e1 := xo_some h0
  obtain ⟨t16, ph17, h0, h⟩ := xb_some h
  refine px_cV2 rfl rfl e1 rfl rfl rfl rfl rfl rfl rfl (r_M_flagsOf h0 :) (fun _ _ q => nomatch q.2) (fun r ph' q => ?_)
  obtain ⟨rfl, q⟩ := q
  cases q
  refine px_ic (k := 8) rfl rfl rfl ?_
  obtain ⟨fs, h0, h⟩ := xs_some h
  have e1 := xo_some h0
  obtain ⟨u0, ph18, h0, h⟩ := xb_some h
  refine px_cV3 rfl rfl e1 rfl rfl rfl rfl rfl rfl rfl (r_M_put h0 :) (fun _ _ q => nomatch q.2) (fun r ph' q => ?_)
  obtain ⟨rfl, q⟩ := q
  cases q
  refine px_ic (k := 0) rfl rfl rfl ?_
  refine px_st (lv' := [_, _, _, _, _]) rfl rfl rfl rfl rfl rfl rfl ?_
  exact (r_M_mergedSection_67 _ h :)
def f_M_mergedSymbol (F : Nat) (a0 : Nat) (a1 : Int32) (a2 : Int32) (a3 : Int32) (a4 : Int64) (a6 : Int64) (ph : px_H) : Option (Unit × px_H) :=
  (xgI ph 12 123 a0).bind fun t1 =>
  (xo ph 12 a0).bind fun _ =>
  xb (f_M_placeOf F a0 t1 ph) fun t2 ph3 =>
  (xo ph3 12 a0).bind fun _ =>
  xb (f_M_put F a0 ((t2 + ((nI 24) * a1)) + (nI 4)) a2.toInt64 (nI 1) ph3) fun _ ph4 =>
  (xo ph4 12 a0).bind fun _ =>
  xb (f_M_put F a0 ((t2 + ((nI 24) * a1)) + (nI 6)) a3.toInt64 (nI 2) ph4) fun _ ph5 =>
  (xo ph5 12 a0).bind fun _ =>
  xb (f_M_put F a0 ((t2 + ((nI 24) * a1)) + (nI 8)) a4 (nI 8) ph5) fun _ ph6 =>
  (xo ph6 12 a0).bind fun _ =>
  xb (f_M_put F a0 ((t2 + ((nI 24) * a1)) + (nI 16)) a6 (nI 8) ph6) fun _ ph7 =>
  some ((), ph7)
theorem r_M_mergedSymbol {l : Launch} {g : px_G} {d F : Nat} {a0 : Nat} {a1 : Int32} {a2 : Int32} {a3 : Int32} {a4 : Int64} {a6 : Int64} {ph : px_H} {r : Unit} {ph' : px_H} (h : f_M_mergedSymbol F a0 a1 a2 a3 a4 a6 ph = some (r, ph')) : PW l g (d + 6) m_M_mergedSymbol 0 [.ref a0, .int a1, .int a2, .int a3, .long a4, px_u, .long a6, px_u, px_u] [] ph (px_qV r ph') := by
  unfold f_M_mergedSymbol at h
  refine px_ld rfl rfl rfl rfl rfl ?_
  refine px_ld rfl rfl rfl rfl rfl ?_
  obtain ⟨t1, h0, h⟩ := xs_some h
  obtain ⟨fs, e1, e2⟩ := xgI_some h0
  refine px_get rfl e1 e2 rfl ?_
  obtain ⟨fs, h0, h⟩ := xs_some h
  have e1 := xo_some h0
  obtain ⟨t2, ph3, h0, h⟩ := xb_some h
  refine px_cV1 rfl rfl e1 rfl rfl rfl rfl rfl rfl rfl (r_M_placeOf h0 :) (fun _ _ q => nomatch q.2) (fun r ph' q => ?_)
  obtain ⟨rfl, q⟩ := q
  cases q
  refine px_ic (k := 24) rfl rfl rfl ?_
  refine px_ld rfl rfl rfl rfl rfl ?_
  refine px_alu rfl rfl rfl ?_
  refine px_alu rfl rfl rfl ?_
  refine px_st (lv' := [_, _, _, _, _, _, _, _, _]) rfl rfl rfl rfl rfl rfl rfl ?_
  refine px_ld rfl rfl rfl rfl rfl ?_
  refine px_ld rfl rfl rfl rfl rfl ?_
  refine px_ic (k := 4) rfl rfl rfl ?_
  refine px_alu rfl rfl rfl ?_
  refine px_ld rfl rfl rfl rfl rfl ?_
  refine px_alu rfl rfl rfl ?_
  refine px_ic (k := 1) rfl rfl rfl ?_
  obtain ⟨fs, h0, h⟩ := xs_some h
  have e1 := xo_some h0
  obtain ⟨u0, ph4, h0, h⟩ := xb_some h
  refine px_cV3 rfl rfl e1 rfl rfl rfl rfl rfl rfl rfl (r_M_put h0 :) (fun _ _ q => nomatch q.2) (fun r ph' q => ?_)
  obtain ⟨rfl, q⟩ := q
  cases q
  refine px_ld rfl rfl rfl rfl rfl ?_
  refine px_ld rfl rfl rfl rfl rfl ?_
  refine px_ic (k := 6) rfl rfl rfl ?_
  refine px_alu rfl rfl rfl ?_
  refine px_ld rfl rfl rfl rfl rfl ?_
  refine px_alu rfl rfl rfl ?_
  refine px_ic (k := 2) rfl rfl rfl ?_
  obtain ⟨fs, h0, h⟩ := xs_some h
  have e1 := xo_some h0
  obtain ⟨u0, ph5, h0, h⟩ := xb_some h
  refine px_cV3 rfl rfl e1 rfl rfl rfl rfl rfl rfl rfl (r_M_put h0 :) (fun _ _ q => nomatch q.2) (fun r ph' q => ?_)
  obtain ⟨rfl, q⟩ := q
  cases q
  refine px_ld rfl rfl rfl rfl rfl ?_
  refine px_ld rfl rfl rfl rfl rfl ?_
  refine px_ic (k := 8) rfl rfl rfl ?_
  refine px_alu rfl rfl rfl ?_
  refine px_ld rfl rfl rfl rfl rfl ?_
  refine px_ic (k := 8) rfl rfl rfl ?_
  obtain ⟨fs, h0, h⟩ := xs_some h
  have e1 := xo_some h0
  obtain ⟨u0, ph6, h0, h⟩ := xb_some h
  refine px_cV3 rfl rfl e1 rfl rfl rfl rfl rfl rfl rfl (r_M_put h0 :) (fun _ _ q => nomatch q.2) (fun r ph' q => ?_)
  obtain ⟨rfl, q⟩ := q
  cases q
  refine px_ld rfl rfl rfl rfl rfl ?_
  refine px_ld rfl rfl rfl rfl rfl ?_
  refine px_ic (k := 16) rfl rfl rfl ?_
  refine px_alu rfl rfl rfl ?_
  refine px_ld rfl rfl rfl rfl rfl ?_
  refine px_ic (k := 8) rfl rfl rfl ?_
  obtain ⟨fs, h0, h⟩ := xs_some h
  have e1 := xo_some h0
  obtain ⟨u0, ph7, h0, h⟩ := xb_some h
  refine px_cV3 rfl rfl e1 rfl rfl rfl rfl rfl rfl rfl (r_M_put h0 :) (fun _ _ q => nomatch q.2) (fun r ph' q => ?_)
  obtain ⟨rfl, q⟩ := q
  cases q
  cases h
  exact px_vret rfl rfl rfl ⟨rfl, rfl⟩
def f_M_mergedLocals_201 (F : Nat) (ph : px_H) : Option (Unit × px_H) :=
  some ((), ph)
theorem r_M_mergedLocals_201 {l : Launch} {g : px_G} {d F : Nat} {ph : px_H} {r : Unit} {ph' : px_H} (h : f_M_mergedLocals_201 F ph = some (r, ph')) : PW l g (d + 7) m_M_mergedLocals 201 [px_u, px_u, px_u, px_u, px_u, px_u, px_u] [] ph (px_qV r ph') := by
  unfold f_M_mergedLocals_201 at h
  cases h
  exact px_vret rfl rfl rfl ⟨rfl, rfl⟩
def f_M_mergedLocals_195 (F : Nat) (k2 : Nat → Int32 → px_H → Option (Unit × px_H)) (a0 : Nat) (a1 : Int32) (ph : px_H) : Option (Unit × px_H) :=
  k2 a0 (a1 + nI 1) ph
theorem r_M_mergedLocals_195 {l : Launch} {g : px_G} {d F : Nat} {k2 : Nat → Int32 → px_H → Option (Unit × px_H)} (hk2 : ∀ {a0 : Nat} {a1 : Int32} {ph : px_H} {r : Unit} {ph' : px_H}, k2 a0 a1 ph = some (r, ph') → PW l g (d + 7) m_M_mergedLocals 2 [.ref a0, .int a1, px_u, px_u, px_u, px_u, px_u] [] ph (px_qV r ph')) {a0 : Nat} {a1 : Int32} {ph : px_H} {r : Unit} {ph' : px_H} (h : f_M_mergedLocals_195 F k2 a0 a1 ph = some (r, ph')) : PW l g (d + 7) m_M_mergedLocals 195 [.ref a0, .int a1, px_u, px_u, px_u, px_u, px_u] [] ph (px_qV r ph') := by
  unfold f_M_mergedLocals_195 at h
  refine px_iinc (lv' := [_, _, _, _, _, _, _]) rfl rfl rfl rfl rfl rfl ?_
  refine px_goto rfl (by decide) rfl ?_
  exact (hk2 h :)
def f_M_mergedLocals_189 (F : Nat) (k2 : Nat → Int32 → px_H → Option (Unit × px_H)) (k18 : Nat → Int32 → Int32 → Int32 → px_H → Option (Unit × px_H)) (a0 : Nat) (a1 : Int32) (a2 : Int32) (a3 : Int32) (ph : px_H) : Option (Unit × px_H) :=
  k18 a0 a1 a2 (a3 + nI 1) ph
theorem r_M_mergedLocals_189 {l : Launch} {g : px_G} {d F : Nat} {k2 : Nat → Int32 → px_H → Option (Unit × px_H)} (hk2 : ∀ {a0 : Nat} {a1 : Int32} {ph : px_H} {r : Unit} {ph' : px_H}, k2 a0 a1 ph = some (r, ph') → PW l g (d + 7) m_M_mergedLocals 2 [.ref a0, .int a1, px_u, px_u, px_u, px_u, px_u] [] ph (px_qV r ph')) {k18 : Nat → Int32 → Int32 → Int32 → px_H → Option (Unit × px_H)} (hk18 : ∀ {a0 : Nat} {a1 : Int32} {a2 : Int32} {a3 : Int32} {ph : px_H} {r : Unit} {ph' : px_H}, k18 a0 a1 a2 a3 ph = some (r, ph') → PW l g (d + 7) m_M_mergedLocals 18 [.ref a0, .int a1, .int a2, .int a3, px_u, px_u, px_u] [] ph (px_qV r ph')) {a0 : Nat} {a1 : Int32} {a2 : Int32} {a3 : Int32} {ph : px_H} {r : Unit} {ph' : px_H} (h : f_M_mergedLocals_189 F k2 k18 a0 a1 a2 a3 ph = some (r, ph')) : PW l g (d + 7) m_M_mergedLocals 189 [.ref a0, .int a1, .int a2, .int a3, px_u, px_u, px_u] [] ph (px_qV r ph') := by
  unfold f_M_mergedLocals_189 at h
  refine px_iinc (lv' := [_, _, _, _, _, _, _]) rfl rfl rfl rfl rfl rfl ?_
  refine px_goto rfl (by decide) rfl ?_
  exact (hk18 h :)
def f_M_mergedLocals_180 (F : Nat) (k2 : Nat → Int32 → px_H → Option (Unit × px_H)) (k18 : Nat → Int32 → Int32 → Int32 → px_H → Option (Unit × px_H)) (a0 : Nat) (a1 : Int32) (a2 : Int32) (a3 : Int32) (s0 : Nat) (s1 : Int32) (s2 : Int32) (s3 : Int32) (s4 : Int64) (ph : px_H) : Option (Unit × px_H) :=
  (xo ph 12 a0).bind fun _ =>
  xb (f_M_symbolSize F a0 a2 a3 ph) fun t1 ph2 =>
  (xo ph2 12 s0).bind fun _ =>
  xb (f_M_mergedSymbol F s0 s1 s2 s3 s4 t1 ph2) fun _ ph3 =>
  f_M_mergedLocals_189 F k2 k18 a0 a1 a2 a3 ph3
theorem r_M_mergedLocals_180 {l : Launch} {g : px_G} {d F : Nat} {k2 : Nat → Int32 → px_H → Option (Unit × px_H)} (hk2 : ∀ {a0 : Nat} {a1 : Int32} {ph : px_H} {r : Unit} {ph' : px_H}, k2 a0 a1 ph = some (r, ph') → PW l g (d + 7) m_M_mergedLocals 2 [.ref a0, .int a1, px_u, px_u, px_u, px_u, px_u] [] ph (px_qV r ph')) {k18 : Nat → Int32 → Int32 → Int32 → px_H → Option (Unit × px_H)} (hk18 : ∀ {a0 : Nat} {a1 : Int32} {a2 : Int32} {a3 : Int32} {ph : px_H} {r : Unit} {ph' : px_H}, k18 a0 a1 a2 a3 ph = some (r, ph') → PW l g (d + 7) m_M_mergedLocals 18 [.ref a0, .int a1, .int a2, .int a3, px_u, px_u, px_u] [] ph (px_qV r ph')) {a0 : Nat} {a1 : Int32} {a2 : Int32} {a3 : Int32} {s0 : Nat} {s1 : Int32} {s2 : Int32} {s3 : Int32} {s4 : Int64} {ph : px_H} {r : Unit} {ph' : px_H} (h : f_M_mergedLocals_180 F k2 k18 a0 a1 a2 a3 s0 s1 s2 s3 s4 ph = some (r, ph')) : PW l g (d + 7) m_M_mergedLocals 180 [.ref a0, .int a1, .int a2, .int a3, px_u, px_u, px_u] [.long s4, .int s3, .int s2, .int s1, .ref s0] ph (px_qV r ph') := by
  unfold f_M_mergedLocals_180 at h
  refine px_ld rfl rfl rfl rfl rfl ?_
  refine px_ld rfl rfl rfl rfl rfl ?_
  refine px_ld rfl rfl rfl rfl rfl ?_
  obtain ⟨fs, h0, h⟩ := xs_some h
  have e1 := xo_some h0
  obtain ⟨t1, ph2, h0, h⟩ := xb_some h
  refine px_cV2 rfl rfl e1 rfl rfl rfl rfl rfl rfl rfl (r_M_symbolSize h0 :) (fun _ _ q => nomatch q.2) (fun r ph' q => ?_)
  obtain ⟨rfl, q⟩ := q
  cases q
  obtain ⟨fs, h0, h⟩ := xs_some h
  have e1 := xo_some h0
  obtain ⟨u0, ph3, h0, h⟩ := xb_some h
  refine px_cV5 rfl rfl e1 rfl rfl rfl rfl rfl rfl rfl (r_M_mergedSymbol h0 :) (fun _ _ q => nomatch q.2) (fun r ph' q => ?_)
  obtain ⟨rfl, q⟩ := q
  cases q
  exact (r_M_mergedLocals_189 @hk2 @hk18 h :)
def f_M_mergedLocals_174 (F : Nat) (k2 : Nat → Int32 → px_H → Option (Unit × px_H)) (k18 : Nat → Int32 → Int32 → Int32 → px_H → Option (Unit × px_H)) (a0 : Nat) (a1 : Int32) (a2 : Int32) (a3 : Int32) (s0 : Nat) (s1 : Int32) (s2 : Int32) (s3 : Int32) (ph : px_H) : Option (Unit × px_H) :=
  (xo ph 12 a0).bind fun _ =>
  xb (f_M_value F a0 a2 a3 ph) fun t1 ph2 =>
  f_M_mergedLocals_180 F k2 k18 a0 a1 a2 a3 s0 s1 s2 s3 t1 ph2
theorem r_M_mergedLocals_174 {l : Launch} {g : px_G} {d F : Nat} {k2 : Nat → Int32 → px_H → Option (Unit × px_H)} (hk2 : ∀ {a0 : Nat} {a1 : Int32} {ph : px_H} {r : Unit} {ph' : px_H}, k2 a0 a1 ph = some (r, ph') → PW l g (d + 7) m_M_mergedLocals 2 [.ref a0, .int a1, px_u, px_u, px_u, px_u, px_u] [] ph (px_qV r ph')) {k18 : Nat → Int32 → Int32 → Int32 → px_H → Option (Unit × px_H)} (hk18 : ∀ {a0 : Nat} {a1 : Int32} {a2 : Int32} {a3 : Int32} {ph : px_H} {r : Unit} {ph' : px_H}, k18 a0 a1 a2 a3 ph = some (r, ph') → PW l g (d + 7) m_M_mergedLocals 18 [.ref a0, .int a1, .int a2, .int a3, px_u, px_u, px_u] [] ph (px_qV r ph')) {a0 : Nat} {a1 : Int32} {a2 : Int32} {a3 : Int32} {s0 : Nat} {s1 : Int32} {s2 : Int32} {s3 : Int32} {ph : px_H} {r : Unit} {ph' : px_H} (h : f_M_mergedLocals_174 F k2 k18 a0 a1 a2 a3 s0 s1 s2 s3 ph = some (r, ph')) : PW l g (d + 7) m_M_mergedLocals 174 [.ref a0, .int a1, .int a2, .int a3, px_u, px_u, px_u] [.int s3, .int s2, .int s1, .ref s0] ph (px_qV r ph') := by
  unfold f_M_mergedLocals_174 at h
  refine px_ld rfl rfl rfl rfl rfl ?_
  refine px_ld rfl rfl rfl rfl rfl ?_
  refine px_ld rfl rfl rfl rfl rfl ?_
  obtain ⟨fs, h0, h⟩ := xs_some h
  have e1 := xo_some h0
  obtain ⟨t1, ph2, h0, h⟩ := xb_some h
  refine px_cV2 rfl rfl e1 rfl rfl rfl rfl rfl rfl rfl (r_M_value h0 :) (fun _ _ q => nomatch q.2) (fun r ph' q => ?_)
  obtain ⟨rfl, q⟩ := q
  cases q
  exact (r_M_mergedLocals_180 @hk2 @hk18 h :)
def f_M_mergedLocals_150 (F : Nat) (k2 : Nat → Int32 → px_H → Option (Unit × px_H)) (k18 : Nat → Int32 → Int32 → Int32 → px_H → Option (Unit × px_H)) (a0 : Nat) (a1 : Int32) (a2 : Int32) (a3 : Int32) (a4 : Int32) (a6 : Int32) (s0 : Nat) (s1 : Int32) (s2 : Int32) (s3 : Int32) (ph : px_H) : Option (Unit × px_H) :=
  if a6 = 0 then
    f_M_mergedLocals_174 F k2 k18 a0 a1 a2 a3 s0 s1 s2 s3 ph
  else
    (xgR ph 12 65 a0).bind fun t1 =>
    (xaI ph 3 t1 (((nI 24) * a1) + a4)).bind fun t2 =>
    if t2 = 0 then
      f_M_mergedLocals_174 F k2 k18 a0 a1 a2 a3 s0 s1 s2 s3 ph
    else
      f_M_mergedLocals_180 F k2 k18 a0 a1 a2 a3 s0 s1 s2 s3 (lN 0) ph
theorem r_M_mergedLocals_150 {l : Launch} {g : px_G} {d F : Nat} {k2 : Nat → Int32 → px_H → Option (Unit × px_H)} (hk2 : ∀ {a0 : Nat} {a1 : Int32} {ph : px_H} {r : Unit} {ph' : px_H}, k2 a0 a1 ph = some (r, ph') → PW l g (d + 7) m_M_mergedLocals 2 [.ref a0, .int a1, px_u, px_u, px_u, px_u, px_u] [] ph (px_qV r ph')) {k18 : Nat → Int32 → Int32 → Int32 → px_H → Option (Unit × px_H)} (hk18 : ∀ {a0 : Nat} {a1 : Int32} {a2 : Int32} {a3 : Int32} {ph : px_H} {r : Unit} {ph' : px_H}, k18 a0 a1 a2 a3 ph = some (r, ph') → PW l g (d + 7) m_M_mergedLocals 18 [.ref a0, .int a1, .int a2, .int a3, px_u, px_u, px_u] [] ph (px_qV r ph')) {a0 : Nat} {a1 : Int32} {a2 : Int32} {a3 : Int32} {a4 : Int32} {a6 : Int32} {s0 : Nat} {s1 : Int32} {s2 : Int32} {s3 : Int32} {ph : px_H} {r : Unit} {ph' : px_H} (h : f_M_mergedLocals_150 F k2 k18 a0 a1 a2 a3 a4 a6 s0 s1 s2 s3 ph = some (r, ph')) : PW l g (d + 7) m_M_mergedLocals 150 [.ref a0, .int a1, .int a2, .int a3, .int a4, px_u, .int a6] [.int s3, .int s2, .int s1, .ref s0] ph (px_qV r ph') := by
  unfold f_M_mergedLocals_150 at h
  refine px_ld rfl rfl rfl rfl rfl ?_
  refine px_ifeq rfl (by decide) rfl (fun hc => ?_) (fun hc => ?_)
  · replace h := (if_pos hc).symm.trans h
    refine px_forget (n := 4) (lv' := [_, _, _, _, _, _, _]) rfl ?_
    refine px_forget (n := 6) (lv' := [_, _, _, _, _, _, _]) rfl ?_
    exact (r_M_mergedLocals_174 @hk2 @hk18 h :)
  · replace h := (if_neg hc).symm.trans h
    refine px_ld rfl rfl rfl rfl rfl ?_
    obtain ⟨t1, h0, h⟩ := xs_some h
    obtain ⟨fs, e1, e2⟩ := xgR_some h0
    refine px_get rfl e1 e2 rfl ?_
    refine px_ic (k := 24) rfl rfl rfl ?_
    refine px_ld rfl rfl rfl rfl rfl ?_
    refine px_alu rfl rfl rfl ?_
    refine px_ld rfl rfl rfl rfl rfl ?_
    refine px_alu rfl rfl rfl ?_
    obtain ⟨t2, h0, h⟩ := xs_some h
    obtain ⟨N, f, e1, e2, e3⟩ := xaI_some h0
    subst e3
    refine px_zald rfl e1 rfl e2 rfl ?_
    refine px_ifeq rfl (by decide) rfl (fun hc => ?_) (fun hc => ?_)
    · replace h := (if_pos hc).symm.trans h
      refine px_forget (n := 4) (lv' := [_, _, _, _, _, _, _]) rfl ?_
      refine px_forget (n := 6) (lv' := [_, _, _, _, _, _, _]) rfl ?_
      exact (r_M_mergedLocals_174 @hk2 @hk18 h :)
    · replace h := (if_neg hc).symm.trans h
      refine px_alu rfl rfl rfl ?_
      refine px_goto rfl (by decide) rfl ?_
      refine px_forget (n := 4) (lv' := [_, _, _, _, _, _, _]) rfl ?_
      refine px_forget (n := 6) (lv' := [_, _, _, _, _, _, _]) rfl ?_
      exact (r_M_mergedLocals_180 @hk2 @hk18 h :)
def f_M_mergedLocals_86 (F : Nat) (k2 : Nat → Int32 → px_H → Option (Unit × px_H)) (k18 : Nat → Int32 → Int32 → Int32 → px_H → Option (Unit × px_H)) (a0 : Nat) (a1 : Int32) (a2 : Int32) (a3 : Int32) (a4 : Int32) (a5 : Int32) (s0 : Int32) (ph : px_H) : Option (Unit × px_H) :=
  (xgR ph 12 118 a0).bind fun t1 =>
  (xaI ph 1 t1 (((nI 64) * a1) + a3)).bind fun t2 =>
  (xgR ph 12 6 a0).bind fun t3 =>
  (xo ph 12 a0).bind fun _ =>
  xb (f_M_symbol F a0 a2 a3 ph) fun t4 ph5 =>
  (xaI ph5 0 t3 (t4 + (nI 4))).bind fun t6 =>
  if s0 = 0 then
    if a5 = 0 then
      f_M_mergedLocals_150 F k2 k18 a0 a1 a2 a3 a4 s0 a0 t2 (t6 &&& (nI 255)) a4 ph5
    else
      (xgR ph5 12 117 a0).bind fun t7 =>
      (xaI ph5 1 t7 (((nI 24) * a1) + a4)).bind fun t8 =>
      f_M_mergedLocals_150 F k2 k18 a0 a1 a2 a3 a4 s0 a0 t2 (t6 &&& (nI 255)) t8 ph5
  else
    f_M_mergedLocals_150 F k2 k18 a0 a1 a2 a3 a4 s0 a0 t2 (t6 &&& (nI 255)) ((65521 : Int32)) ph5
theorem r_M_mergedLocals_86 {l : Launch} {g : px_G} {d F : Nat} {k2 : Nat → Int32 → px_H → Option (Unit × px_H)} (hk2 : ∀ {a0 : Nat} {a1 : Int32} {ph : px_H} {r : Unit} {ph' : px_H}, k2 a0 a1 ph = some (r, ph') → PW l g (d + 7) m_M_mergedLocals 2 [.ref a0, .int a1, px_u, px_u, px_u, px_u, px_u] [] ph (px_qV r ph')) {k18 : Nat → Int32 → Int32 → Int32 → px_H → Option (Unit × px_H)} (hk18 : ∀ {a0 : Nat} {a1 : Int32} {a2 : Int32} {a3 : Int32} {ph : px_H} {r : Unit} {ph' : px_H}, k18 a0 a1 a2 a3 ph = some (r, ph') → PW l g (d + 7) m_M_mergedLocals 18 [.ref a0, .int a1, .int a2, .int a3, px_u, px_u, px_u] [] ph (px_qV r ph')) {a0 : Nat} {a1 : Int32} {a2 : Int32} {a3 : Int32} {a4 : Int32} {a5 : Int32} {s0 : Int32} {ph : px_H} {r : Unit} {ph' : px_H} (h : f_M_mergedLocals_86 F k2 k18 a0 a1 a2 a3 a4 a5 s0 ph = some (r, ph')) : PW l g (d + 7) m_M_mergedLocals 86 [.ref a0, .int a1, .int a2, .int a3, .int a4, .int a5, px_u] [.int s0] ph (px_qV r ph') := by
  unfold f_M_mergedLocals_86 at h
  refine px_st (lv' := [_, _, _, _, _, _, _]) rfl rfl rfl rfl rfl rfl rfl ?_
  refine px_ld rfl rfl rfl rfl rfl ?_
  refine px_ld rfl rfl rfl rfl rfl ?_
  obtain ⟨t1, h0, h⟩ := xs_some h
  obtain ⟨fs, e1, e2⟩ := xgR_some h0
  refine px_get rfl e1 e2 rfl ?_
  refine px_ic (k := 64) rfl rfl rfl ?_
  refine px_ld rfl rfl rfl rfl rfl ?_
  refine px_alu rfl rfl rfl ?_
  refine px_ld rfl rfl rfl rfl rfl ?_
  refine px_alu rfl rfl rfl ?_
  obtain ⟨t2, h0, h⟩ := xs_some h
  obtain ⟨N, f, e1, e2, e3⟩ := xaI_some h0
  subst e3
  refine px_iald rfl e1 rfl e2 rfl ?_
  refine px_ld rfl rfl rfl rfl rfl ?_
  obtain ⟨t3, h0, h⟩ := xs_some h
  obtain ⟨fs, e1, e2⟩ := xgR_some h0
  refine px_get rfl e1 e2 rfl ?_
  refine px_ld rfl rfl rfl rfl rfl ?_
  refine px_ld rfl rfl rfl rfl rfl ?_
  refine px_ld rfl rfl rfl rfl rfl ?_
  obtain ⟨fs, h0, h⟩ := xs_some h
  have e1 := xo_some h0
  obtain ⟨t4, ph5, h0, h⟩ := xb_some h
  refine px_cV2 rfl rfl e1 rfl rfl rfl rfl rfl rfl rfl (r_M_symbol h0 :) (fun _ _ q => nomatch q.2) (fun r ph' q => ?_)
  obtain ⟨rfl, q⟩ := q
  cases q
  refine px_ic (k := 4) rfl rfl rfl ?_
  refine px_alu rfl rfl rfl ?_
  obtain ⟨t6, h0, h⟩ := xs_some h
  obtain ⟨N, f, e1, e2, e3⟩ := xaI_some h0
  subst e3
  refine px_bald rfl e1 rfl e2 rfl ?_
  refine px_ic (k := 255) rfl rfl rfl ?_
  refine px_alu rfl rfl rfl ?_
  refine px_ld rfl rfl rfl rfl rfl ?_
  refine px_ifeq rfl (by decide) rfl (fun hc => ?_) (fun hc => ?_)
  · replace h := (if_pos hc).symm.trans h
    refine px_ld rfl rfl rfl rfl rfl ?_
    refine px_ifeq rfl (by decide) rfl (fun hc => ?_) (fun hc => ?_)
    · replace h := (if_pos hc).symm.trans h
      refine px_ld rfl rfl rfl rfl rfl ?_
      refine px_forget (n := 5) (lv' := [_, _, _, _, _, _, _]) rfl ?_
      exact (r_M_mergedLocals_150 @hk2 @hk18 h :)
    · replace h := (if_neg hc).symm.trans h
      refine px_ld rfl rfl rfl rfl rfl ?_
      obtain ⟨t7, h0, h⟩ := xs_some h
      obtain ⟨fs, e1, e2⟩ := xgR_some h0
      refine px_get rfl e1 e2 rfl ?_
      refine px_ic (k := 24) rfl rfl rfl ?_
      refine px_ld rfl rfl rfl rfl rfl ?_
      refine px_alu rfl rfl rfl ?_
      refine px_ld rfl rfl rfl rfl rfl ?_
      refine px_alu rfl rfl rfl ?_
      obtain ⟨t8, h0, h⟩ := xs_some h
      obtain ⟨N, f, e1, e2, e3⟩ := xaI_some h0
      subst e3
      refine px_iald rfl e1 rfl e2 rfl ?_
      refine px_goto rfl (by decide) rfl ?_
      refine px_forget (n := 5) (lv' := [_, _, _, _, _, _, _]) rfl ?_
      exact (r_M_mergedLocals_150 @hk2 @hk18 h :)
  · replace h := (if_neg hc).symm.trans h
    refine px_ldcw rfl (by decide) rfl rfl ?_
    refine px_goto rfl (by decide) rfl ?_
    refine px_forget (n := 5) (lv' := [_, _, _, _, _, _, _]) rfl ?_
    exact (r_M_mergedLocals_150 @hk2 @hk18 h :)
def f_M_mergedLocals_85 (F : Nat) (k2 : Nat → Int32 → px_H → Option (Unit × px_H)) (k18 : Nat → Int32 → Int32 → Int32 → px_H → Option (Unit × px_H)) (a0 : Nat) (a1 : Int32) (a2 : Int32) (a3 : Int32) (a4 : Int32) (a5 : Int32) (ph : px_H) : Option (Unit × px_H) :=
  f_M_mergedLocals_86 F k2 k18 a0 a1 a2 a3 a4 a5 (nI 0) ph
theorem r_M_mergedLocals_85 {l : Launch} {g : px_G} {d F : Nat} {k2 : Nat → Int32 → px_H → Option (Unit × px_H)} (hk2 : ∀ {a0 : Nat} {a1 : Int32} {ph : px_H} {r : Unit} {ph' : px_H}, k2 a0 a1 ph = some (r, ph') → PW l g (d + 7) m_M_mergedLocals 2 [.ref a0, .int a1, px_u, px_u, px_u, px_u, px_u] [] ph (px_qV r ph')) {k18 : Nat → Int32 → Int32 → Int32 → px_H → Option (Unit × px_H)} (hk18 : ∀ {a0 : Nat} {a1 : Int32} {a2 : Int32} {a3 : Int32} {ph : px_H} {r : Unit} {ph' : px_H}, k18 a0 a1 a2 a3 ph = some (r, ph') → PW l g (d + 7) m_M_mergedLocals 18 [.ref a0, .int a1, .int a2, .int a3, px_u, px_u, px_u] [] ph (px_qV r ph')) {a0 : Nat} {a1 : Int32} {a2 : Int32} {a3 : Int32} {a4 : Int32} {a5 : Int32} {ph : px_H} {r : Unit} {ph' : px_H} (h : f_M_mergedLocals_85 F k2 k18 a0 a1 a2 a3 a4 a5 ph = some (r, ph')) : PW l g (d + 7) m_M_mergedLocals 85 [.ref a0, .int a1, .int a2, .int a3, .int a4, .int a5, px_u] [] ph (px_qV r ph') := by
  unfold f_M_mergedLocals_85 at h
  refine px_ic (k := 0) rfl rfl rfl ?_
  exact (r_M_mergedLocals_86 @hk2 @hk18 h :)
def f_M_mergedLocals_64 (F : Nat) (k2 : Nat → Int32 → px_H → Option (Unit × px_H)) (k18 : Nat → Int32 → Int32 → Int32 → px_H → Option (Unit × px_H)) (a0 : Nat) (a1 : Int32) (a2 : Int32) (a3 : Int32) (a4 : Int32) (s0 : Int32) (ph : px_H) : Option (Unit × px_H) :=
  if s0 = 0 then
    f_M_mergedLocals_85 F k2 k18 a0 a1 a2 a3 a4 s0 ph
  else
    (xo ph 12 a0).bind fun _ =>
    xb (f_M_stays F a0 a1 a4 ph) fun t1 ph2 =>
    if t1 = 0 then
      f_M_mergedLocals_86 F k2 k18 a0 a1 a2 a3 a4 s0 (nI 1) ph2
    else
      f_M_mergedLocals_85 F k2 k18 a0 a1 a2 a3 a4 s0 ph2
theorem r_M_mergedLocals_64 {l : Launch} {g : px_G} {d F : Nat} {k2 : Nat → Int32 → px_H → Option (Unit × px_H)} (hk2 : ∀ {a0 : Nat} {a1 : Int32} {ph : px_H} {r : Unit} {ph' : px_H}, k2 a0 a1 ph = some (r, ph') → PW l g (d + 7) m_M_mergedLocals 2 [.ref a0, .int a1, px_u, px_u, px_u, px_u, px_u] [] ph (px_qV r ph')) {k18 : Nat → Int32 → Int32 → Int32 → px_H → Option (Unit × px_H)} (hk18 : ∀ {a0 : Nat} {a1 : Int32} {a2 : Int32} {a3 : Int32} {ph : px_H} {r : Unit} {ph' : px_H}, k18 a0 a1 a2 a3 ph = some (r, ph') → PW l g (d + 7) m_M_mergedLocals 18 [.ref a0, .int a1, .int a2, .int a3, px_u, px_u, px_u] [] ph (px_qV r ph')) {a0 : Nat} {a1 : Int32} {a2 : Int32} {a3 : Int32} {a4 : Int32} {s0 : Int32} {ph : px_H} {r : Unit} {ph' : px_H} (h : f_M_mergedLocals_64 F k2 k18 a0 a1 a2 a3 a4 s0 ph = some (r, ph')) : PW l g (d + 7) m_M_mergedLocals 64 [.ref a0, .int a1, .int a2, .int a3, .int a4, px_u, px_u] [.int s0] ph (px_qV r ph') := by
  unfold f_M_mergedLocals_64 at h
  refine px_st (lv' := [_, _, _, _, _, _, _]) rfl rfl rfl rfl rfl rfl rfl ?_
  refine px_ld rfl rfl rfl rfl rfl ?_
  refine px_ifeq rfl (by decide) rfl (fun hc => ?_) (fun hc => ?_)
  · replace h := (if_pos hc).symm.trans h
    exact (r_M_mergedLocals_85 @hk2 @hk18 h :)
  · replace h := (if_neg hc).symm.trans h
    refine px_ld rfl rfl rfl rfl rfl ?_
    refine px_ld rfl rfl rfl rfl rfl ?_
    refine px_ld rfl rfl rfl rfl rfl ?_
    obtain ⟨fs, h0, h⟩ := xs_some h
    have e1 := xo_some h0
    obtain ⟨t1, ph2, h0, h⟩ := xb_some h
    refine px_cV2 rfl rfl e1 rfl rfl rfl rfl rfl rfl rfl (r_M_stays h0 :) (fun _ _ q => nomatch q.2) (fun r ph' q => ?_)
    obtain ⟨rfl, q⟩ := q
    cases q
    refine px_ifne rfl (by decide) rfl (fun hc => ?_) (fun hc => ?_)
    · replace h := (if_neg hc).symm.trans h
      exact (r_M_mergedLocals_85 @hk2 @hk18 h :)
    · replace h := (if_pos hc).symm.trans h
      refine px_ic (k := 1) rfl rfl rfl ?_
      refine px_goto rfl (by decide) rfl ?_
      exact (r_M_mergedLocals_86 @hk2 @hk18 h :)
def f_M_mergedLocals_63 (F : Nat) (k2 : Nat → Int32 → px_H → Option (Unit × px_H)) (k18 : Nat → Int32 → Int32 → Int32 → px_H → Option (Unit × px_H)) (a0 : Nat) (a1 : Int32) (a2 : Int32) (a3 : Int32) (a4 : Int32) (ph : px_H) : Option (Unit × px_H) :=
  f_M_mergedLocals_64 F k2 k18 a0 a1 a2 a3 a4 (nI 0) ph
theorem r_M_mergedLocals_63 {l : Launch} {g : px_G} {d F : Nat} {k2 : Nat → Int32 → px_H → Option (Unit × px_H)} (hk2 : ∀ {a0 : Nat} {a1 : Int32} {ph : px_H} {r : Unit} {ph' : px_H}, k2 a0 a1 ph = some (r, ph') → PW l g (d + 7) m_M_mergedLocals 2 [.ref a0, .int a1, px_u, px_u, px_u, px_u, px_u] [] ph (px_qV r ph')) {k18 : Nat → Int32 → Int32 → Int32 → px_H → Option (Unit × px_H)} (hk18 : ∀ {a0 : Nat} {a1 : Int32} {a2 : Int32} {a3 : Int32} {ph : px_H} {r : Unit} {ph' : px_H}, k18 a0 a1 a2 a3 ph = some (r, ph') → PW l g (d + 7) m_M_mergedLocals 18 [.ref a0, .int a1, .int a2, .int a3, px_u, px_u, px_u] [] ph (px_qV r ph')) {a0 : Nat} {a1 : Int32} {a2 : Int32} {a3 : Int32} {a4 : Int32} {ph : px_H} {r : Unit} {ph' : px_H} (h : f_M_mergedLocals_63 F k2 k18 a0 a1 a2 a3 a4 ph = some (r, ph')) : PW l g (d + 7) m_M_mergedLocals 63 [.ref a0, .int a1, .int a2, .int a3, .int a4, px_u, px_u] [] ph (px_qV r ph') := by
  unfold f_M_mergedLocals_63 at h
  refine px_ic (k := 0) rfl rfl rfl ?_
  exact (r_M_mergedLocals_64 @hk2 @hk18 h :)
def f_M_mergedLocals_18 (F : Nat) (k2 : Nat → Int32 → px_H → Option (Unit × px_H)) : Nat → Nat → Int32 → Int32 → Int32 → px_H → Option (Unit × px_H)
  | 0, _, _, _, _, _ => none
  | n + 1, a0, a1, a2, a3, ph =>
    (xo ph 12 a0).bind fun _ =>
    xb (f_M_symbolMany F a0 a2 ph) fun t1 ph2 =>
    if t1 ≤ a3 then
      f_M_mergedLocals_195 F k2 a0 a1 ph2
    else
      (xo ph2 12 a0).bind fun _ =>
      xb (f_M_bind F a0 a2 a3 ph2) fun t3 ph4 =>
      if t3 = 0 then
        (xo ph4 12 a0).bind fun _ =>
        xb (f_M_where F a0 a2 a3 ph4) fun t5 ph6 =>
        if t5 ≤ 0 then
          f_M_mergedLocals_63 F k2 (f_M_mergedLocals_18 F k2 n) a0 a1 a2 a3 t5 ph6
        else
          if (nI 24) ≤ t5 then
            f_M_mergedLocals_63 F k2 (f_M_mergedLocals_18 F k2 n) a0 a1 a2 a3 t5 ph6
          else
            f_M_mergedLocals_64 F k2 (f_M_mergedLocals_18 F k2 n) a0 a1 a2 a3 t5 (nI 1) ph6
      else
        f_M_mergedLocals_189 F k2 (f_M_mergedLocals_18 F k2 n) a0 a1 a2 a3 ph4
theorem r_M_mergedLocals_18 {l : Launch} {g : px_G} {d F : Nat} {k2 : Nat → Int32 → px_H → Option (Unit × px_H)} (hk2 : ∀ {a0 : Nat} {a1 : Int32} {ph : px_H} {r : Unit} {ph' : px_H}, k2 a0 a1 ph = some (r, ph') → PW l g (d + 7) m_M_mergedLocals 2 [.ref a0, .int a1, px_u, px_u, px_u, px_u, px_u] [] ph (px_qV r ph')) : ∀ (n : Nat) {a0 : Nat} {a1 : Int32} {a2 : Int32} {a3 : Int32} {ph : px_H} {r : Unit} {ph' : px_H}, f_M_mergedLocals_18 F k2 n a0 a1 a2 a3 ph = some (r, ph') → PW l g (d + 7) m_M_mergedLocals 18 [.ref a0, .int a1, .int a2, .int a3, px_u, px_u, px_u] [] ph (px_qV r ph') := by
  intro n
  induction n with
  | zero => intro _ _ _ _ _ _ _ h; cases h
  | succ n ih =>
    intro a0 a1 a2 a3 ph r ph' h
    unfold f_M_mergedLocals_18 at h
    refine px_ld rfl rfl rfl rfl rfl ?_
    refine px_ld rfl rfl rfl rfl rfl ?_
    refine px_ld rfl rfl rfl rfl rfl ?_
    obtain ⟨fs, h0, h⟩ := xs_some h
    have e1 := xo_some h0
    obtain ⟨t1, ph2, h0, h⟩ := xb_some h
    refine px_cV1 rfl rfl e1 rfl rfl rfl rfl rfl rfl rfl (r_M_symbolMany h0 :) (fun _ _ q => nomatch q.2) (fun r ph' q => ?_)
    obtain ⟨rfl, q⟩ := q
    cases q
    refine px_icge rfl (by decide) rfl (fun hc => ?_) (fun hc => ?_)
    · replace h := (if_pos hc).symm.trans h
      refine px_forget (n := 2) (lv' := [_, _, _, _, _, _, _]) rfl ?_
      refine px_forget (n := 3) (lv' := [_, _, _, _, _, _, _]) rfl ?_
      exact (r_M_mergedLocals_195 @hk2 h :)
    · replace h := (if_neg hc).symm.trans h
      refine px_ld rfl rfl rfl rfl rfl ?_
      refine px_ld rfl rfl rfl rfl rfl ?_
      refine px_ld rfl rfl rfl rfl rfl ?_
      obtain ⟨fs, h0, h⟩ := xs_some h
      have e1 := xo_some h0
      obtain ⟨t3, ph4, h0, h⟩ := xb_some h
      refine px_cV2 rfl rfl e1 rfl rfl rfl rfl rfl rfl rfl (r_M_bind h0 :) (fun _ _ q => nomatch q.2) (fun r ph' q => ?_)
      obtain ⟨rfl, q⟩ := q
      cases q
      refine px_ifeq rfl (by decide) rfl (fun hc => ?_) (fun hc => ?_)
      · replace h := (if_pos hc).symm.trans h
        refine px_ld rfl rfl rfl rfl rfl ?_
        refine px_ld rfl rfl rfl rfl rfl ?_
        refine px_ld rfl rfl rfl rfl rfl ?_
        obtain ⟨fs, h0, h⟩ := xs_some h
        have e1 := xo_some h0
        obtain ⟨t5, ph6, h0, h⟩ := xb_some h
        refine px_cV2 rfl rfl e1 rfl rfl rfl rfl rfl rfl rfl (r_M_where h0 :) (fun _ _ q => nomatch q.2) (fun r ph' q => ?_)
        obtain ⟨rfl, q⟩ := q
        cases q
        refine px_st (lv' := [_, _, _, _, _, _, _]) rfl rfl rfl rfl rfl rfl rfl ?_
        refine px_ld rfl rfl rfl rfl rfl ?_
        refine px_ifle rfl (by decide) rfl (fun hc => ?_) (fun hc => ?_)
        · replace h := (if_pos hc).symm.trans h
          exact (r_M_mergedLocals_63 @hk2 @ih h :)
        · replace h := (if_neg hc).symm.trans h
          refine px_ld rfl rfl rfl rfl rfl ?_
          refine px_ic (k := 24) rfl rfl rfl ?_
          refine px_icge rfl (by decide) rfl (fun hc => ?_) (fun hc => ?_)
          · replace h := (if_pos hc).symm.trans h
            exact (r_M_mergedLocals_63 @hk2 @ih h :)
          · replace h := (if_neg hc).symm.trans h
            refine px_ic (k := 1) rfl rfl rfl ?_
            refine px_goto rfl (by decide) rfl ?_
            exact (r_M_mergedLocals_64 @hk2 @ih h :)
      · replace h := (if_neg hc).symm.trans h
        refine px_goto rfl (by decide) rfl ?_
        exact (r_M_mergedLocals_189 @hk2 @ih h :)
def f_M_mergedLocals_2 (F : Nat) : Nat → Nat → Int32 → px_H → Option (Unit × px_H)
  | 0, _, _, _ => none
  | n + 1, a0, a1, ph =>
    (xgI ph 12 14 a0).bind fun t1 =>
    if t1 ≤ a1 then
      f_M_mergedLocals_201 F ph
    else
      (xo ph 12 a0).bind fun _ =>
      xb (f_M_object F a0 a1 ph) fun t2 ph3 =>
      f_M_mergedLocals_18 F (f_M_mergedLocals_2 F n) F a0 a1 t2 (nI 1) ph3
theorem r_M_mergedLocals_2 {l : Launch} {g : px_G} {d F : Nat} : ∀ (n : Nat) {a0 : Nat} {a1 : Int32} {ph : px_H} {r : Unit} {ph' : px_H}, f_M_mergedLocals_2 F n a0 a1 ph = some (r, ph') → PW l g (d + 7) m_M_mergedLocals 2 [.ref a0, .int a1, px_u, px_u, px_u, px_u, px_u] [] ph (px_qV r ph') := by
  intro n
  induction n with
  | zero => intro _ _ _ _ _ h; cases h
  | succ n ih =>
    intro a0 a1 ph r ph' h
    unfold f_M_mergedLocals_2 at h
    refine px_ld rfl rfl rfl rfl rfl ?_
    refine px_ld rfl rfl rfl rfl rfl ?_
    obtain ⟨t1, h0, h⟩ := xs_some h
    obtain ⟨fs, e1, e2⟩ := xgI_some h0
    refine px_get rfl e1 e2 rfl ?_
    refine px_icge rfl (by decide) rfl (fun hc => ?_) (fun hc => ?_)
    · replace h := (if_pos hc).symm.trans h
      refine px_forget (n := 0) (lv' := [_, _, _, _, _, _, _]) rfl ?_
      refine px_forget (n := 1) (lv' := [_, _, _, _, _, _, _]) rfl ?_
      exact (r_M_mergedLocals_201 h :)
    · replace h := (if_neg hc).symm.trans h
      refine px_ld rfl rfl rfl rfl rfl ?_
      refine px_ld rfl rfl rfl rfl rfl ?_
      obtain ⟨fs, h0, h⟩ := xs_some h
      have e1 := xo_some h0
      obtain ⟨t2, ph3, h0, h⟩ := xb_some h
      refine px_cV1 rfl rfl e1 rfl rfl rfl rfl rfl rfl rfl (r_M_object h0 :) (fun _ _ q => nomatch q.2) (fun r ph' q => ?_)
      obtain ⟨rfl, q⟩ := q
      cases q
      refine px_st (lv' := [_, _, _, _, _, _, _]) rfl rfl rfl rfl rfl rfl rfl ?_
      refine px_ic (k := 1) rfl rfl rfl ?_
      refine px_st (lv' := [_, _, _, _, _, _, _]) rfl rfl rfl rfl rfl rfl rfl ?_
      exact (r_M_mergedLocals_18 @ih _ h :)
def f_M_mergedLocals (F : Nat) (a0 : Nat) (ph : px_H) : Option (Unit × px_H) :=
  f_M_mergedLocals_2 F F a0 (nI 0) ph
theorem r_M_mergedLocals {l : Launch} {g : px_G} {d F : Nat} {a0 : Nat} {ph : px_H} {r : Unit} {ph' : px_H} (h : f_M_mergedLocals F a0 ph = some (r, ph')) : PW l g (d + 7) m_M_mergedLocals 0 [.ref a0, px_u, px_u, px_u, px_u, px_u, px_u] [] ph (px_qV r ph') := by
  unfold f_M_mergedLocals at h
  refine px_ic (k := 0) rfl rfl rfl ?_
  refine px_st (lv' := [_, _, _, _, _, _, _]) rfl rfl rfl rfl rfl rfl rfl ?_
  exact (r_M_mergedLocals_2 _ h :)
def f_M_mergedDefinition_62 (F : Nat) (a0 : Nat) (a3 : Int32) (a4 : Int32) (s0 : Nat) (s1 : Int32) (s2 : Int32) (s3 : Int32) (ph : px_H) : Option (Unit × px_H) :=
  (xo ph 12 a0).bind fun _ =>
  xb (f_M_value F a0 a4 a3 ph) fun t1 ph2 =>
  (xo ph2 12 a0).bind fun _ =>
  xb (f_M_symbolSize F a0 a4 a3 ph2) fun t3 ph4 =>
  (xo ph4 12 s0).bind fun _ =>
  xb (f_M_mergedSymbol F s0 s1 s2 s3 t1 t3 ph4) fun _ ph5 =>
  some ((), ph5)
theorem r_M_mergedDefinition_62 {l : Launch} {g : px_G} {d F : Nat} {a0 : Nat} {a3 : Int32} {a4 : Int32} {s0 : Nat} {s1 : Int32} {s2 : Int32} {s3 : Int32} {ph : px_H} {r : Unit} {ph' : px_H} (h : f_M_mergedDefinition_62 F a0 a3 a4 s0 s1 s2 s3 ph = some (r, ph')) : PW l g (d + 7) m_M_mergedDefinition 62 [.ref a0, px_u, px_u, .int a3, .int a4, px_u] [.int s3, .int s2, .int s1, .ref s0] ph (px_qV r ph') := by
  unfold f_M_mergedDefinition_62 at h
  refine px_ld rfl rfl rfl rfl rfl ?_
  refine px_ld rfl rfl rfl rfl rfl ?_
  refine px_ld rfl rfl rfl rfl rfl ?_
  obtain ⟨fs, h0, h⟩ := xs_some h
  have e1 := xo_some h0
  obtain ⟨t1, ph2, h0, h⟩ := xb_some h
  refine px_cV2 rfl rfl e1 rfl rfl rfl rfl rfl rfl rfl (r_M_value h0 :) (fun _ _ q => nomatch q.2) (fun r ph' q => ?_)
  obtain ⟨rfl, q⟩ := q
  cases q
  refine px_ld rfl rfl rfl rfl rfl ?_
  refine px_ld rfl rfl rfl rfl rfl ?_
  refine px_ld rfl rfl rfl rfl rfl ?_
  obtain ⟨fs, h0, h⟩ := xs_some h
  have e1 := xo_some h0
  obtain ⟨t3, ph4, h0, h⟩ := xb_some h
  refine px_cV2 rfl rfl e1 rfl rfl rfl rfl rfl rfl rfl (r_M_symbolSize h0 :) (fun _ _ q => nomatch q.2) (fun r ph' q => ?_)
  obtain ⟨rfl, q⟩ := q
  cases q
  obtain ⟨fs, h0, h⟩ := xs_some h
  have e1 := xo_some h0
  obtain ⟨u0, ph5, h0, h⟩ := xb_some h
  refine px_cV5 rfl rfl e1 rfl rfl rfl rfl rfl rfl rfl (r_M_mergedSymbol h0 :) (fun _ _ q => nomatch q.2) (fun r ph' q => ?_)
  obtain ⟨rfl, q⟩ := q
  cases q
  cases h
  exact px_vret rfl rfl rfl ⟨rfl, rfl⟩
def f_M_mergedDefinition (F : Nat) (a0 : Nat) (a1 : Int32) (a2 : Int32) (a3 : Int32) (ph : px_H) : Option (Unit × px_H) :=
  (xo ph 12 a0).bind fun _ =>
  xb (f_M_object F a0 a2 ph) fun t1 ph2 =>
  (xo ph2 12 a0).bind fun _ =>
  xb (f_M_where F a0 t1 a3 ph2) fun t3 ph4 =>
  (xgR ph4 12 6 a0).bind fun t5 =>
  (xo ph4 12 a0).bind fun _ =>
  xb (f_M_symbol F a0 t1 a3 ph4) fun t6 ph7 =>
  (xaI ph7 0 t5 (t6 + (nI 4))).bind fun t8 =>
  if t3 = ((65521 : Int32)) then
    f_M_mergedDefinition_62 F a0 a3 t1 a0 a1 (t8 &&& (nI 255)) ((65521 : Int32)) ph7
  else
    (xgR ph7 12 117 a0).bind fun t9 =>
    (xaI ph7 1 t9 (((nI 24) * a2) + t3)).bind fun t10 =>
    f_M_mergedDefinition_62 F a0 a3 t1 a0 a1 (t8 &&& (nI 255)) t10 ph7
theorem r_M_mergedDefinition {l : Launch} {g : px_G} {d F : Nat} {a0 : Nat} {a1 : Int32} {a2 : Int32} {a3 : Int32} {ph : px_H} {r : Unit} {ph' : px_H} (h : f_M_mergedDefinition F a0 a1 a2 a3 ph = some (r, ph')) : PW l g (d + 7) m_M_mergedDefinition 0 [.ref a0, .int a1, .int a2, .int a3, px_u, px_u] [] ph (px_qV r ph') := by
  unfold f_M_mergedDefinition at h
  refine px_ld rfl rfl rfl rfl rfl ?_
  refine px_ld rfl rfl rfl rfl rfl ?_
  obtain ⟨fs, h0, h⟩ := xs_some h
  have e1 := xo_some h0
  obtain ⟨t1, ph2, h0, h⟩ := xb_some h
  refine px_cV1 rfl rfl e1 rfl rfl rfl rfl rfl rfl rfl (r_M_object h0 :) (fun _ _ q => nomatch q.2) (fun r ph' q => ?_)
  obtain ⟨rfl, q⟩ := q
  cases q
  refine px_st (lv' := [_, _, _, _, _, _]) rfl rfl rfl rfl rfl rfl rfl ?_
  refine px_ld rfl rfl rfl rfl rfl ?_
  refine px_ld rfl rfl rfl rfl rfl ?_
  refine px_ld rfl rfl rfl rfl rfl ?_
  obtain ⟨fs, h0, h⟩ := xs_some h
  have e1 := xo_some h0
  obtain ⟨t3, ph4, h0, h⟩ := xb_some h
  refine px_cV2 rfl rfl e1 rfl rfl rfl rfl rfl rfl rfl (r_M_where h0 :) (fun _ _ q => nomatch q.2) (fun r ph' q => ?_)
  obtain ⟨rfl, q⟩ := q
  cases q
  refine px_st (lv' := [_, _, _, _, _, _]) rfl rfl rfl rfl rfl rfl rfl ?_
  refine px_ld rfl rfl rfl rfl rfl ?_
  refine px_ld rfl rfl rfl rfl rfl ?_
  refine px_ld rfl rfl rfl rfl rfl ?_
  obtain ⟨t5, h0, h⟩ := xs_some h
  obtain ⟨fs, e1, e2⟩ := xgR_some h0
  refine px_get rfl e1 e2 rfl ?_
  refine px_ld rfl rfl rfl rfl rfl ?_
  refine px_ld rfl rfl rfl rfl rfl ?_
  refine px_ld rfl rfl rfl rfl rfl ?_
  obtain ⟨fs, h0, h⟩ := xs_some h
  have e1 := xo_some h0
  obtain ⟨t6, ph7, h0, h⟩ := xb_some h
  refine px_cV2 rfl rfl e1 rfl rfl rfl rfl rfl rfl rfl (r_M_symbol h0 :) (fun _ _ q => nomatch q.2) (fun r ph' q => ?_)
  obtain ⟨rfl, q⟩ := q
  cases q
  refine px_ic (k := 4) rfl rfl rfl ?_
  refine px_alu rfl rfl rfl ?_
  obtain ⟨t8, h0, h⟩ := xs_some h
  obtain ⟨N, f, e1, e2, e3⟩ := xaI_some h0
  subst e3
  refine px_bald rfl e1 rfl e2 rfl ?_
  refine px_ic (k := 255) rfl rfl rfl ?_
  refine px_alu rfl rfl rfl ?_
  refine px_ld rfl rfl rfl rfl rfl ?_
  refine px_ldcw rfl (by decide) rfl rfl ?_
  refine px_icne rfl rfl rfl (fun hc => ?_) (fun hc => ?_)
  · replace h := (if_neg hc).symm.trans h
    refine px_ld rfl rfl rfl rfl rfl ?_
    obtain ⟨t9, h0, h⟩ := xs_some h
    obtain ⟨fs, e1, e2⟩ := xgR_some h0
    refine px_get rfl e1 e2 rfl ?_
    refine px_ic (k := 24) rfl rfl rfl ?_
    refine px_ld rfl rfl rfl rfl rfl ?_
    refine px_alu rfl rfl rfl ?_
    refine px_ld rfl rfl rfl rfl rfl ?_
    refine px_alu rfl rfl rfl ?_
    obtain ⟨t10, h0, h⟩ := xs_some h
    obtain ⟨N, f, e1, e2, e3⟩ := xaI_some h0
    subst e3
    refine px_iald rfl e1 rfl e2 rfl ?_
    refine px_forget (n := 1) (lv' := [_, _, _, _, _, _]) rfl ?_
    refine px_forget (n := 2) (lv' := [_, _, _, _, _, _]) rfl ?_
    refine px_forget (n := 5) (lv' := [_, _, _, _, _, _]) rfl ?_
    exact (r_M_mergedDefinition_62 h :)
  · replace h := (if_pos hc).symm.trans h
    refine px_ldcw rfl (by decide) rfl rfl ?_
    refine px_goto rfl rfl rfl ?_
    refine px_forget (n := 1) (lv' := [_, _, _, _, _, _]) rfl ?_
    refine px_forget (n := 2) (lv' := [_, _, _, _, _, _]) rfl ?_
    refine px_forget (n := 5) (lv' := [_, _, _, _, _, _]) rfl ?_
    exact (r_M_mergedDefinition_62 h :)
def f_M_mergedNames_239 (F : Nat) (ph : px_H) : Option (Unit × px_H) :=
  some ((), ph)
theorem r_M_mergedNames_239 {l : Launch} {g : px_G} {d F : Nat} {ph : px_H} {r : Unit} {ph' : px_H} (h : f_M_mergedNames_239 F ph = some (r, ph')) : PW l g (d + 8) m_M_mergedNames 239 [px_u, px_u, px_u, px_u, px_u] [] ph (px_qV r ph') := by
  unfold f_M_mergedNames_239 at h
  cases h
  exact px_vret rfl rfl rfl ⟨rfl, rfl⟩
def f_M_mergedNames_222 (F : Nat) (k7 : Nat → Int32 → Int32 → px_H → Option (Unit × px_H)) (a0 : Nat) (a1 : Int32) (a2 : Int32) (a3 : Int32) (ph : px_H) : Option (Unit × px_H) :=
  (xgR ph 12 22 a0).bind fun t1 =>
  (xaI ph 1 t1 a3).bind fun t2 =>
  k7 a0 (a1 + (t2 + (nI 1))) (a2 + nI 1) ph
theorem r_M_mergedNames_222 {l : Launch} {g : px_G} {d F : Nat} {k7 : Nat → Int32 → Int32 → px_H → Option (Unit × px_H)} (hk7 : ∀ {a0 : Nat} {a1 : Int32} {a2 : Int32} {ph : px_H} {r : Unit} {ph' : px_H}, k7 a0 a1 a2 ph = some (r, ph') → PW l g (d + 8) m_M_mergedNames 7 [.ref a0, .int a1, .int a2, px_u, px_u] [] ph (px_qV r ph')) {a0 : Nat} {a1 : Int32} {a2 : Int32} {a3 : Int32} {ph : px_H} {r : Unit} {ph' : px_H} (h : f_M_mergedNames_222 F k7 a0 a1 a2 a3 ph = some (r, ph')) : PW l g (d + 8) m_M_mergedNames 222 [.ref a0, .int a1, .int a2, .int a3, px_u] [] ph (px_qV r ph') := by
  unfold f_M_mergedNames_222 at h
  refine px_ld rfl rfl rfl rfl rfl ?_
  refine px_ld rfl rfl rfl rfl rfl ?_
  obtain ⟨t1, h0, h⟩ := xs_some h
  obtain ⟨fs, e1, e2⟩ := xgR_some h0
  refine px_get rfl e1 e2 rfl ?_
  refine px_ld rfl rfl rfl rfl rfl ?_
  obtain ⟨t2, h0, h⟩ := xs_some h
  obtain ⟨N, f, e1, e2, e3⟩ := xaI_some h0
  subst e3
  refine px_iald rfl e1 rfl e2 rfl ?_
  refine px_ic (k := 1) rfl rfl rfl ?_
  refine px_alu rfl rfl rfl ?_
  refine px_alu rfl rfl rfl ?_
  refine px_st (lv' := [_, _, _, _, _]) rfl rfl rfl rfl rfl rfl rfl ?_
  refine px_iinc (lv' := [_, _, _, _, _]) rfl rfl rfl rfl rfl rfl ?_
  refine px_goto rfl (by decide) rfl ?_
  refine px_forget (n := 3) (lv' := [_, _, _, _, _]) rfl ?_
  exact (hk7 h :)
def f_M_mergedNames_173 (F : Nat) (k7 : Nat → Int32 → Int32 → px_H → Option (Unit × px_H)) : Nat → Nat → Int32 → Int32 → Int32 → Int32 → px_H → Option (Unit × px_H)
  | 0, _, _, _, _, _, _ => none
  | n + 1, a0, a1, a2, a3, a4, ph =>
    (xgR ph 12 22 a0).bind fun t1 =>
    (xaI ph 1 t1 a3).bind fun t2 =>
    if t2 ≤ a4 then
      f_M_mergedNames_222 F k7 a0 a1 a2 a3 ph
    else
      (xgR ph 12 3 a0).bind fun t3 =>
      (xgI ph 12 123 a0).bind fun t4 =>
      (xo ph 12 a0).bind fun _ =>
      xb (f_M_placeOf F a0 (t4 + (nI 1)) ph) fun t5 ph6 =>
      (xgR ph6 12 21 a0).bind fun t7 =>
      (xaI ph6 0 t7 (((nI 20) * a3) + a4)).bind fun t8 =>
      (xsI ph6 0 t3 ((t5 + a1) + a4) (t8.toInt8.toInt32)).bind fun ph9 =>
      f_M_mergedNames_173 F k7 n a0 a1 a2 a3 (a4 + nI 1) ph9
theorem r_M_mergedNames_173 {l : Launch} {g : px_G} {d F : Nat} {k7 : Nat → Int32 → Int32 → px_H → Option (Unit × px_H)} (hk7 : ∀ {a0 : Nat} {a1 : Int32} {a2 : Int32} {ph : px_H} {r : Unit} {ph' : px_H}, k7 a0 a1 a2 ph = some (r, ph') → PW l g (d + 8) m_M_mergedNames 7 [.ref a0, .int a1, .int a2, px_u, px_u] [] ph (px_qV r ph')) : ∀ (n : Nat) {a0 : Nat} {a1 : Int32} {a2 : Int32} {a3 : Int32} {a4 : Int32} {ph : px_H} {r : Unit} {ph' : px_H}, f_M_mergedNames_173 F k7 n a0 a1 a2 a3 a4 ph = some (r, ph') → PW l g (d + 8) m_M_mergedNames 173 [.ref a0, .int a1, .int a2, .int a3, .int a4] [] ph (px_qV r ph') := by
  intro n
  induction n with
  | zero => intro _ _ _ _ _ _ _ _ h; cases h
  | succ n ih =>
    intro a0 a1 a2 a3 a4 ph r ph' h
    unfold f_M_mergedNames_173 at h
    refine px_ld rfl rfl rfl rfl rfl ?_
    refine px_ld rfl rfl rfl rfl rfl ?_
    obtain ⟨t1, h0, h⟩ := xs_some h
    obtain ⟨fs, e1, e2⟩ := xgR_some h0
    refine px_get rfl e1 e2 rfl ?_
    refine px_ld rfl rfl rfl rfl rfl ?_
    obtain ⟨t2, h0, h⟩ := xs_some h
    obtain ⟨N, f, e1, e2, e3⟩ := xaI_some h0
    subst e3
    refine px_iald rfl e1 rfl e2 rfl ?_
    refine px_icge rfl (by decide) rfl (fun hc => ?_) (fun hc => ?_)
    · replace h := (if_pos hc).symm.trans h
      refine px_forget (n := 4) (lv' := [_, _, _, _, _]) rfl ?_
      exact (r_M_mergedNames_222 @hk7 h :)
    · replace h := (if_neg hc).symm.trans h
      refine px_ld rfl rfl rfl rfl rfl ?_
      obtain ⟨t3, h0, h⟩ := xs_some h
      obtain ⟨fs, e1, e2⟩ := xgR_some h0
      refine px_get rfl e1 e2 rfl ?_
      refine px_ld rfl rfl rfl rfl rfl ?_
      refine px_ld rfl rfl rfl rfl rfl ?_
      obtain ⟨t4, h0, h⟩ := xs_some h
      obtain ⟨fs, e1, e2⟩ := xgI_some h0
      refine px_get rfl e1 e2 rfl ?_
      refine px_ic (k := 1) rfl rfl rfl ?_
      refine px_alu rfl rfl rfl ?_
      obtain ⟨fs, h0, h⟩ := xs_some h
      have e1 := xo_some h0
      obtain ⟨t5, ph6, h0, h⟩ := xb_some h
      refine px_cV1 rfl rfl e1 rfl rfl rfl rfl rfl rfl rfl (r_M_placeOf h0 :) (fun _ _ q => nomatch q.2) (fun r ph' q => ?_)
      obtain ⟨rfl, q⟩ := q
      cases q
      refine px_ld rfl rfl rfl rfl rfl ?_
      refine px_alu rfl rfl rfl ?_
      refine px_ld rfl rfl rfl rfl rfl ?_
      refine px_alu rfl rfl rfl ?_
      refine px_ld rfl rfl rfl rfl rfl ?_
      obtain ⟨t7, h0, h⟩ := xs_some h
      obtain ⟨fs, e1, e2⟩ := xgR_some h0
      refine px_get rfl e1 e2 rfl ?_
      refine px_ic (k := 20) rfl rfl rfl ?_
      refine px_ld rfl rfl rfl rfl rfl ?_
      refine px_alu rfl rfl rfl ?_
      refine px_ld rfl rfl rfl rfl rfl ?_
      refine px_alu rfl rfl rfl ?_
      obtain ⟨t8, h0, h⟩ := xs_some h
      obtain ⟨N, f, e1, e2, e3⟩ := xaI_some h0
      subst e3
      refine px_bald rfl e1 rfl e2 rfl ?_
      obtain ⟨ph9, h0, h⟩ := xs_some h
      obtain ⟨N, f, e1, e2, e3⟩ := xsI_some h0
      subst e3
      refine px_bast rfl e1 rfl e2 rfl ?_
      refine px_iinc (lv' := [_, _, _, _, _]) rfl rfl rfl rfl rfl rfl ?_
      refine px_goto rfl (by decide) rfl ?_
      exact (ih h :)
def f_M_mergedNames_150 (F : Nat) (k7 : Nat → Int32 → Int32 → px_H → Option (Unit × px_H)) (a0 : Nat) (a1 : Int32) (a2 : Int32) (a3 : Int32) (ph : px_H) : Option (Unit × px_H) :=
  (xgI ph 12 123 a0).bind fun t1 =>
  (xo ph 12 a0).bind fun _ =>
  xb (f_M_placeOf F a0 t1 ph) fun t2 ph3 =>
  (xo ph3 12 a0).bind fun _ =>
  xb (f_M_put F a0 (t2 + ((nI 24) * a2)) a1.toInt64 (nI 4) ph3) fun _ ph4 =>
  f_M_mergedNames_173 F k7 F a0 a1 a2 a3 (nI 0) ph4
theorem r_M_mergedNames_150 {l : Launch} {g : px_G} {d F : Nat} {k7 : Nat → Int32 → Int32 → px_H → Option (Unit × px_H)} (hk7 : ∀ {a0 : Nat} {a1 : Int32} {a2 : Int32} {ph : px_H} {r : Unit} {ph' : px_H}, k7 a0 a1 a2 ph = some (r, ph') → PW l g (d + 8) m_M_mergedNames 7 [.ref a0, .int a1, .int a2, px_u, px_u] [] ph (px_qV r ph')) {a0 : Nat} {a1 : Int32} {a2 : Int32} {a3 : Int32} {ph : px_H} {r : Unit} {ph' : px_H} (h : f_M_mergedNames_150 F k7 a0 a1 a2 a3 ph = some (r, ph')) : PW l g (d + 8) m_M_mergedNames 150 [.ref a0, .int a1, .int a2, .int a3, px_u] [] ph (px_qV r ph') := by
  unfold f_M_mergedNames_150 at h
  refine px_ld rfl rfl rfl rfl rfl ?_
  refine px_ld rfl rfl rfl rfl rfl ?_
  refine px_ld rfl rfl rfl rfl rfl ?_
  obtain ⟨t1, h0, h⟩ := xs_some h
  obtain ⟨fs, e1, e2⟩ := xgI_some h0
  refine px_get rfl e1 e2 rfl ?_
  obtain ⟨fs, h0, h⟩ := xs_some h
  have e1 := xo_some h0
  obtain ⟨t2, ph3, h0, h⟩ := xb_some h
  refine px_cV1 rfl rfl e1 rfl rfl rfl rfl rfl rfl rfl (r_M_placeOf h0 :) (fun _ _ q => nomatch q.2) (fun r ph' q => ?_)
  obtain ⟨rfl, q⟩ := q
  cases q
  refine px_ic (k := 24) rfl rfl rfl ?_
  refine px_ld rfl rfl rfl rfl rfl ?_
  refine px_alu rfl rfl rfl ?_
  refine px_alu rfl rfl rfl ?_
  refine px_ld rfl rfl rfl rfl rfl ?_
  refine px_alu rfl rfl rfl ?_
  refine px_ic (k := 4) rfl rfl rfl ?_
  obtain ⟨fs, h0, h⟩ := xs_some h
  have e1 := xo_some h0
  obtain ⟨u0, ph4, h0, h⟩ := xb_some h
  refine px_cV3 rfl rfl e1 rfl rfl rfl rfl rfl rfl rfl (r_M_put h0 :) (fun _ _ q => nomatch q.2) (fun r ph' q => ?_)
  obtain ⟨rfl, q⟩ := q
  cases q
  refine px_ic (k := 0) rfl rfl rfl ?_
  refine px_st (lv' := [_, _, _, _, _]) rfl rfl rfl rfl rfl rfl rfl ?_
  exact (r_M_mergedNames_173 @hk7 _ h :)
def f_M_mergedNames_96 (F : Nat) (k7 : Nat → Int32 → Int32 → px_H → Option (Unit × px_H)) (a0 : Nat) (a1 : Int32) (a2 : Int32) (a3 : Int32) (s0 : Nat) (s1 : Int32) (s2 : Int32) (ph : px_H) : Option (Unit × px_H) :=
  (xo ph 12 s0).bind fun _ =>
  xb (f_M_mergedSymbol F s0 s1 s2 (nI 0) (lN 0) (lN 0) ph) fun _ ph1 =>
  f_M_mergedNames_150 F k7 a0 a1 a2 a3 ph1
theorem r_M_mergedNames_96 {l : Launch} {g : px_G} {d F : Nat} {k7 : Nat → Int32 → Int32 → px_H → Option (Unit × px_H)} (hk7 : ∀ {a0 : Nat} {a1 : Int32} {a2 : Int32} {ph : px_H} {r : Unit} {ph' : px_H}, k7 a0 a1 a2 ph = some (r, ph') → PW l g (d + 8) m_M_mergedNames 7 [.ref a0, .int a1, .int a2, px_u, px_u] [] ph (px_qV r ph')) {a0 : Nat} {a1 : Int32} {a2 : Int32} {a3 : Int32} {s0 : Nat} {s1 : Int32} {s2 : Int32} {ph : px_H} {r : Unit} {ph' : px_H} (h : f_M_mergedNames_96 F k7 a0 a1 a2 a3 s0 s1 s2 ph = some (r, ph')) : PW l g (d + 8) m_M_mergedNames 96 [.ref a0, .int a1, .int a2, .int a3, px_u] [.int s2, .int s1, .ref s0] ph (px_qV r ph') := by
  unfold f_M_mergedNames_96 at h
  refine px_ic (k := 0) rfl rfl rfl ?_
  refine px_alu rfl rfl rfl ?_
  refine px_alu rfl rfl rfl ?_
  obtain ⟨fs, h0, h⟩ := xs_some h
  have e1 := xo_some h0
  obtain ⟨u0, ph1, h0, h⟩ := xb_some h
  refine px_cV5 rfl rfl e1 rfl rfl rfl rfl rfl rfl rfl (r_M_mergedSymbol h0 :) (fun _ _ q => nomatch q.2) (fun r ph' q => ?_)
  obtain ⟨rfl, q⟩ := q
  cases q
  refine px_goto rfl (by decide) rfl ?_
  exact (r_M_mergedNames_150 @hk7 h :)
def f_M_mergedNames_78 (F : Nat) (k7 : Nat → Int32 → Int32 → px_H → Option (Unit × px_H)) (a0 : Nat) (a1 : Int32) (a2 : Int32) (a3 : Int32) (ph : px_H) : Option (Unit × px_H) :=
  (xgR ph 12 28 a0).bind fun t1 =>
  (xaI ph 3 t1 a3).bind fun t2 =>
  if t2 = 0 then
    f_M_mergedNames_96 F k7 a0 a1 a2 a3 a0 a2 (nI 32) ph
  else
    f_M_mergedNames_96 F k7 a0 a1 a2 a3 a0 a2 (nI 16) ph
theorem r_M_mergedNames_78 {l : Launch} {g : px_G} {d F : Nat} {k7 : Nat → Int32 → Int32 → px_H → Option (Unit × px_H)} (hk7 : ∀ {a0 : Nat} {a1 : Int32} {a2 : Int32} {ph : px_H} {r : Unit} {ph' : px_H}, k7 a0 a1 a2 ph = some (r, ph') → PW l g (d + 8) m_M_mergedNames 7 [.ref a0, .int a1, .int a2, px_u, px_u] [] ph (px_qV r ph')) {a0 : Nat} {a1 : Int32} {a2 : Int32} {a3 : Int32} {ph : px_H} {r : Unit} {ph' : px_H} (h : f_M_mergedNames_78 F k7 a0 a1 a2 a3 ph = some (r, ph')) : PW l g (d + 8) m_M_mergedNames 78 [.ref a0, .int a1, .int a2, .int a3, px_u] [] ph (px_qV r ph') := by
  unfold f_M_mergedNames_78 at h
  refine px_ld rfl rfl rfl rfl rfl ?_
  refine px_ld rfl rfl rfl rfl rfl ?_
  refine px_ld rfl rfl rfl rfl rfl ?_
  obtain ⟨t1, h0, h⟩ := xs_some h
  obtain ⟨fs, e1, e2⟩ := xgR_some h0
  refine px_get rfl e1 e2 rfl ?_
  refine px_ld rfl rfl rfl rfl rfl ?_
  obtain ⟨t2, h0, h⟩ := xs_some h
  obtain ⟨N, f, e1, e2, e3⟩ := xaI_some h0
  subst e3
  refine px_zald rfl e1 rfl e2 rfl ?_
  refine px_ifeq rfl (by decide) rfl (fun hc => ?_) (fun hc => ?_)
  · replace h := (if_pos hc).symm.trans h
    refine px_ic (k := 32) rfl rfl rfl ?_
    exact (r_M_mergedNames_96 @hk7 h :)
  · replace h := (if_neg hc).symm.trans h
    refine px_ic (k := 16) rfl rfl rfl ?_
    refine px_goto rfl (by decide) rfl ?_
    exact (r_M_mergedNames_96 @hk7 h :)
def f_M_mergedNames_7 (F : Nat) : Nat → Nat → Int32 → Int32 → px_H → Option (Unit × px_H)
  | 0, _, _, _, _ => none
  | n + 1, a0, a1, a2, ph =>
    (xgI ph 12 125 a0).bind fun t1 =>
    if t1 ≤ a2 then
      f_M_mergedNames_239 F ph
    else
      (xgR ph 12 122 a0).bind fun t2 =>
      (xaI ph 1 t2 a2).bind fun t3 =>
      (xgR ph 12 23 a0).bind fun t4 =>
      (xaI ph 1 t4 t3).bind fun t5 =>
      if t5 = (nI 2) then
        (xgR ph 12 27 a0).bind fun t20 =>
        (xaI ph 1 t20 t3).bind fun t21 =>
        (xgR ph 12 26 a0).bind fun t22 =>
        (xaI ph 1 t22 t3).bind fun t23 =>
        (xo ph 12 a0).bind fun _ =>
        xb (f_M_mergedSymbol F a0 a2 (nI 16) ((65522 : Int32)) t21.toInt64 t23.toInt64 ph) fun _ ph24 =>
        f_M_mergedNames_150 F (f_M_mergedNames_7 F n) a0 a1 a2 t3 ph24
      else
        (xgR ph 12 23 a0).bind fun t6 =>
        (xaI ph 1 t6 t3).bind fun t7 =>
        if t7 = 0 then
          f_M_mergedNames_78 F (f_M_mergedNames_7 F n) a0 a1 a2 t3 ph
        else
          (xgR ph 12 23 a0).bind fun t8 =>
          (xaI ph 1 t8 t3).bind fun t9 =>
          if t9 = (nI 4) then
            f_M_mergedNames_78 F (f_M_mergedNames_7 F n) a0 a1 a2 t3 ph
          else
            (xo ph 12 a0).bind fun _ =>
            xb (f_M_isGiven F a0 t3 ph) fun t10 ph11 =>
            if t10 = 0 then
              (xgR ph11 12 24 a0).bind fun t12 =>
              (xaI ph11 1 t12 t3).bind fun t13 =>
              (xgR ph11 12 25 a0).bind fun t14 =>
              (xaI ph11 1 t14 t3).bind fun t15 =>
              (xo ph11 12 a0).bind fun _ =>
              xb (f_M_mergedDefinition F a0 a2 t13 t15 ph11) fun _ ph16 =>
              f_M_mergedNames_150 F (f_M_mergedNames_7 F n) a0 a1 a2 t3 ph16
            else
              (xgR ph11 12 30 a0).bind fun t17 =>
              (xaJ ph11 2 t17 t3).bind fun t18 =>
              (xo ph11 12 a0).bind fun _ =>
              xb (f_M_mergedSymbol F a0 a2 (nI 16) ((65521 : Int32)) t18 (lN 0) ph11) fun _ ph19 =>
              f_M_mergedNames_150 F (f_M_mergedNames_7 F n) a0 a1 a2 t3 ph19
theorem r_M_mergedNames_7 {l : Launch} {g : px_G} {d F : Nat} : ∀ (n : Nat) {a0 : Nat} {a1 : Int32} {a2 : Int32} {ph : px_H} {r : Unit} {ph' : px_H}, f_M_mergedNames_7 F n a0 a1 a2 ph = some (r, ph') → PW l g (d + 8) m_M_mergedNames 7 [.ref a0, .int a1, .int a2, px_u, px_u] [] ph (px_qV r ph') := by
  intro n
  induction n with
  | zero => intro _ _ _ _ _ _ h; cases h
  | succ n ih =>
    intro a0 a1 a2 ph r ph' h
    unfold f_M_mergedNames_7 at h
    refine px_ld rfl rfl rfl rfl rfl ?_
    refine px_ld rfl rfl rfl rfl rfl ?_
    obtain ⟨t1, h0, h⟩ := xs_some h
    obtain ⟨fs, e1, e2⟩ := xgI_some h0
    refine px_get rfl e1 e2 rfl ?_
    refine px_icge rfl (by decide) rfl (fun hc => ?_) (fun hc => ?_)
    · replace h := (if_pos hc).symm.trans h
      refine px_forget (n := 0) (lv' := [_, _, _, _, _]) rfl ?_
      refine px_forget (n := 1) (lv' := [_, _, _, _, _]) rfl ?_
      refine px_forget (n := 2) (lv' := [_, _, _, _, _]) rfl ?_
      exact (r_M_mergedNames_239 h :)
    · replace h := (if_neg hc).symm.trans h
      refine px_ld rfl rfl rfl rfl rfl ?_
      obtain ⟨t2, h0, h⟩ := xs_some h
      obtain ⟨fs, e1, e2⟩ := xgR_some h0
      refine px_get rfl e1 e2 rfl ?_
      refine px_ld rfl rfl rfl rfl rfl ?_
      obtain ⟨t3, h0, h⟩ := xs_some h
      obtain ⟨N, f, e1, e2, e3⟩ := xaI_some h0
      subst e3
      refine px_iald rfl e1 rfl e2 rfl ?_
      refine px_st (lv' := [_, _, _, _, _]) rfl rfl rfl rfl rfl rfl rfl ?_
      refine px_ld rfl rfl rfl rfl rfl ?_
      obtain ⟨t4, h0, h⟩ := xs_some h
      obtain ⟨fs, e1, e2⟩ := xgR_some h0
      refine px_get rfl e1 e2 rfl ?_
      refine px_ld rfl rfl rfl rfl rfl ?_
      obtain ⟨t5, h0, h⟩ := xs_some h
      obtain ⟨N, f, e1, e2, e3⟩ := xaI_some h0
      subst e3
      refine px_iald rfl e1 rfl e2 rfl ?_
      refine px_ic (k := 2) rfl rfl rfl ?_
      refine px_icne rfl (by decide) rfl (fun hc => ?_) (fun hc => ?_)
      · replace h := (if_neg hc).symm.trans h
        refine px_ld rfl rfl rfl rfl rfl ?_
        obtain ⟨t6, h0, h⟩ := xs_some h
        obtain ⟨fs, e1, e2⟩ := xgR_some h0
        refine px_get rfl e1 e2 rfl ?_
        refine px_ld rfl rfl rfl rfl rfl ?_
        obtain ⟨t7, h0, h⟩ := xs_some h
        obtain ⟨N, f, e1, e2, e3⟩ := xaI_some h0
        subst e3
        refine px_iald rfl e1 rfl e2 rfl ?_
        refine px_ifeq rfl (by decide) rfl (fun hc => ?_) (fun hc => ?_)
        · replace h := (if_pos hc).symm.trans h
          exact (r_M_mergedNames_78 @ih h :)
        · replace h := (if_neg hc).symm.trans h
          refine px_ld rfl rfl rfl rfl rfl ?_
          obtain ⟨t8, h0, h⟩ := xs_some h
          obtain ⟨fs, e1, e2⟩ := xgR_some h0
          refine px_get rfl e1 e2 rfl ?_
          refine px_ld rfl rfl rfl rfl rfl ?_
          obtain ⟨t9, h0, h⟩ := xs_some h
          obtain ⟨N, f, e1, e2, e3⟩ := xaI_some h0
          subst e3
          refine px_iald rfl e1 rfl e2 rfl ?_
          refine px_ic (k := 4) rfl rfl rfl ?_
          refine px_icne rfl (by decide) rfl (fun hc => ?_) (fun hc => ?_)
          · replace h := (if_neg hc).symm.trans h
            refine px_ld rfl rfl rfl rfl rfl ?_
            refine px_ld rfl rfl rfl rfl rfl ?_
            obtain ⟨fs, h0, h⟩ := xs_some h
            have e1 := xo_some h0
            obtain ⟨t10, ph11, h0, h⟩ := xb_some h
            refine px_cV1 rfl rfl e1 rfl rfl rfl rfl rfl rfl rfl (r_M_isGiven h0 :) (fun _ _ q => nomatch q.2) (fun r ph' q => ?_)
            obtain ⟨rfl, q⟩ := q
            cases q
            refine px_ifeq rfl (by decide) rfl (fun hc => ?_) (fun hc => ?_)
            · replace h := (if_pos hc).symm.trans h
              refine px_ld rfl rfl rfl rfl rfl ?_
              refine px_ld rfl rfl rfl rfl rfl ?_
              refine px_ld rfl rfl rfl rfl rfl ?_
              obtain ⟨t12, h0, h⟩ := xs_some h
              obtain ⟨fs, e1, e2⟩ := xgR_some h0
              refine px_get rfl e1 e2 rfl ?_
              refine px_ld rfl rfl rfl rfl rfl ?_
              obtain ⟨t13, h0, h⟩ := xs_some h
              obtain ⟨N, f, e1, e2, e3⟩ := xaI_some h0
              subst e3
              refine px_iald rfl e1 rfl e2 rfl ?_
              refine px_ld rfl rfl rfl rfl rfl ?_
              obtain ⟨t14, h0, h⟩ := xs_some h
              obtain ⟨fs, e1, e2⟩ := xgR_some h0
              refine px_get rfl e1 e2 rfl ?_
              refine px_ld rfl rfl rfl rfl rfl ?_
              obtain ⟨t15, h0, h⟩ := xs_some h
              obtain ⟨N, f, e1, e2, e3⟩ := xaI_some h0
              subst e3
              refine px_iald rfl e1 rfl e2 rfl ?_
              obtain ⟨fs, h0, h⟩ := xs_some h
              have e1 := xo_some h0
              obtain ⟨u0, ph16, h0, h⟩ := xb_some h
              refine px_cV3 rfl rfl e1 rfl rfl rfl rfl rfl rfl rfl (r_M_mergedDefinition h0 :) (fun _ _ q => nomatch q.2) (fun r ph' q => ?_)
              obtain ⟨rfl, q⟩ := q
              cases q
              exact (r_M_mergedNames_150 @ih h :)
            · replace h := (if_neg hc).symm.trans h
              refine px_ld rfl rfl rfl rfl rfl ?_
              refine px_ld rfl rfl rfl rfl rfl ?_
              refine px_ic (k := 16) rfl rfl rfl ?_
              refine px_ldcw rfl (by decide) rfl rfl ?_
              refine px_ld rfl rfl rfl rfl rfl ?_
              obtain ⟨t17, h0, h⟩ := xs_some h
              obtain ⟨fs, e1, e2⟩ := xgR_some h0
              refine px_get rfl e1 e2 rfl ?_
              refine px_ld rfl rfl rfl rfl rfl ?_
              obtain ⟨t18, h0, h⟩ := xs_some h
              obtain ⟨N, f, e1, e2, e3⟩ := xaJ_some h0
              subst e3
              refine px_lald rfl e1 rfl e2 rfl ?_
              refine px_alu rfl rfl rfl ?_
              obtain ⟨fs, h0, h⟩ := xs_some h
              have e1 := xo_some h0
              obtain ⟨u0, ph19, h0, h⟩ := xb_some h
              refine px_cV5 rfl rfl e1 rfl rfl rfl rfl rfl rfl rfl (r_M_mergedSymbol h0 :) (fun _ _ q => nomatch q.2) (fun r ph' q => ?_)
              obtain ⟨rfl, q⟩ := q
              cases q
              refine px_goto rfl (by decide) rfl ?_
              exact (r_M_mergedNames_150 @ih h :)
          · replace h := (if_pos hc).symm.trans h
            exact (r_M_mergedNames_78 @ih h :)
      · replace h := (if_pos hc).symm.trans h
        refine px_ld rfl rfl rfl rfl rfl ?_
        refine px_ld rfl rfl rfl rfl rfl ?_
        refine px_ic (k := 16) rfl rfl rfl ?_
        refine px_ldcw rfl (by decide) rfl rfl ?_
        refine px_ld rfl rfl rfl rfl rfl ?_
        obtain ⟨t20, h0, h⟩ := xs_some h
        obtain ⟨fs, e1, e2⟩ := xgR_some h0
        refine px_get rfl e1 e2 rfl ?_
        refine px_ld rfl rfl rfl rfl rfl ?_
        obtain ⟨t21, h0, h⟩ := xs_some h
        obtain ⟨N, f, e1, e2, e3⟩ := xaI_some h0
        subst e3
        refine px_iald rfl e1 rfl e2 rfl ?_
        refine px_alu rfl rfl rfl ?_
        refine px_ld rfl rfl rfl rfl rfl ?_
        obtain ⟨t22, h0, h⟩ := xs_some h
        obtain ⟨fs, e1, e2⟩ := xgR_some h0
        refine px_get rfl e1 e2 rfl ?_
        refine px_ld rfl rfl rfl rfl rfl ?_
        obtain ⟨t23, h0, h⟩ := xs_some h
        obtain ⟨N, f, e1, e2, e3⟩ := xaI_some h0
        subst e3
        refine px_iald rfl e1 rfl e2 rfl ?_
        refine px_alu rfl rfl rfl ?_
        obtain ⟨fs, h0, h⟩ := xs_some h
        have e1 := xo_some h0
        obtain ⟨u0, ph24, h0, h⟩ := xb_some h
        refine px_cV5 rfl rfl e1 rfl rfl rfl rfl rfl rfl rfl (r_M_mergedSymbol h0 :) (fun _ _ q => nomatch q.2) (fun r ph' q => ?_)
        obtain ⟨rfl, q⟩ := q
        cases q
        refine px_goto rfl (by decide) rfl ?_
        exact (r_M_mergedNames_150 @ih h :)
def f_M_mergedNames (F : Nat) (a0 : Nat) (ph : px_H) : Option (Unit × px_H) :=
  (xgI ph 12 124 a0).bind fun t1 =>
  f_M_mergedNames_7 F F a0 (nI 1) t1 ph
theorem r_M_mergedNames {l : Launch} {g : px_G} {d F : Nat} {a0 : Nat} {ph : px_H} {r : Unit} {ph' : px_H} (h : f_M_mergedNames F a0 ph = some (r, ph')) : PW l g (d + 8) m_M_mergedNames 0 [.ref a0, px_u, px_u, px_u, px_u] [] ph (px_qV r ph') := by
  unfold f_M_mergedNames at h
  refine px_ic (k := 1) rfl rfl rfl ?_
  refine px_st (lv' := [_, _, _, _, _]) rfl rfl rfl rfl rfl rfl rfl ?_
  refine px_ld rfl rfl rfl rfl rfl ?_
  obtain ⟨t1, h0, h⟩ := xs_some h
  obtain ⟨fs, e1, e2⟩ := xgI_some h0
  refine px_get rfl e1 e2 rfl ?_
  refine px_st (lv' := [_, _, _, _, _]) rfl rfl rfl rfl rfl rfl rfl ?_
  exact (r_M_mergedNames_7 _ h :)
def f_M_merges_209 (F : Nat) (a0 : Nat) (ph : px_H) : Option (Int32 × px_H) :=
  (xgI ph 12 123 a0).bind fun t1 =>
  (xgI ph 12 125 a0).bind fun t2 =>
  (xgI ph 12 123 a0).bind fun t3 =>
  (xgI ph 12 124 a0).bind fun t4 =>
  (xo ph 12 a0).bind fun _ =>
  xb (f_M_mergedRows F a0 t1 ((2 : Int64)) (((24 : Int64)) * t2.toInt64) (t3 + (nI 1)) t4 ((8 : Int64)) ((24 : Int64)) ph) fun _ ph5 =>
  (xgI ph5 12 123 a0).bind fun t6 =>
  (xo ph5 12 a0).bind fun _ =>
  xb (f_M_textMany F a0 ph5) fun t7 ph8 =>
  (xo ph8 12 a0).bind fun _ =>
  xb (f_M_mergedRows F a0 (t6 + (nI 1)) ((3 : Int64)) t7.toInt64 (nI 0) (nI 0) (lN 1) (lN 0) ph8) fun _ ph9 =>
  (xo ph9 12 a0).bind fun _ =>
  xb (f_M_mergedLocals F a0 ph9) fun _ ph10 =>
  (xo ph10 12 a0).bind fun _ =>
  xb (f_M_mergedNames F a0 ph10) fun _ ph11 =>
  some (nI 1, ph11)
theorem r_M_merges_209 {l : Launch} {g : px_G} {d F : Nat} {a0 : Nat} {ph : px_H} {r : Int32} {ph' : px_H} (h : f_M_merges_209 F a0 ph = some (r, ph')) : PW l g (d + 9) m_M_merges 209 [.ref a0, px_u, px_u] [] ph (px_qI r ph') := by
  unfold f_M_merges_209 at h
  refine px_ld rfl rfl rfl rfl rfl ?_
  refine px_ld rfl rfl rfl rfl rfl ?_
  obtain ⟨t1, h0, h⟩ := xs_some h
  obtain ⟨fs, e1, e2⟩ := xgI_some h0
  refine px_get rfl e1 e2 rfl ?_
  refine px_ldc2 rfl rfl rfl ?_
  refine px_ldc2 rfl rfl rfl ?_
  refine px_ld rfl rfl rfl rfl rfl ?_
  obtain ⟨t2, h0, h⟩ := xs_some h
  obtain ⟨fs, e1, e2⟩ := xgI_some h0
  refine px_get rfl e1 e2 rfl ?_
  refine px_alu rfl rfl rfl ?_
  refine px_alu rfl rfl rfl ?_
  refine px_ld rfl rfl rfl rfl rfl ?_
  obtain ⟨t3, h0, h⟩ := xs_some h
  obtain ⟨fs, e1, e2⟩ := xgI_some h0
  refine px_get rfl e1 e2 rfl ?_
  refine px_ic (k := 1) rfl rfl rfl ?_
  refine px_alu rfl rfl rfl ?_
  refine px_ld rfl rfl rfl rfl rfl ?_
  obtain ⟨t4, h0, h⟩ := xs_some h
  obtain ⟨fs, e1, e2⟩ := xgI_some h0
  refine px_get rfl e1 e2 rfl ?_
  refine px_ldc2 rfl rfl rfl ?_
  refine px_ldc2 rfl rfl rfl ?_
  obtain ⟨fs, h0, h⟩ := xs_some h
  have e1 := xo_some h0
  obtain ⟨u0, ph5, h0, h⟩ := xb_some h
  refine px_cV7 rfl rfl e1 rfl rfl rfl rfl rfl rfl rfl (r_M_mergedRows h0 :) (fun _ _ q => nomatch q.2) (fun r ph' q => ?_)
  obtain ⟨rfl, q⟩ := q
  cases q
  refine px_ld rfl rfl rfl rfl rfl ?_
  refine px_ld rfl rfl rfl rfl rfl ?_
  obtain ⟨t6, h0, h⟩ := xs_some h
  obtain ⟨fs, e1, e2⟩ := xgI_some h0
  refine px_get rfl e1 e2 rfl ?_
  refine px_ic (k := 1) rfl rfl rfl ?_
  refine px_alu rfl rfl rfl ?_
  refine px_ldc2 rfl rfl rfl ?_
  refine px_ld rfl rfl rfl rfl rfl ?_
  obtain ⟨fs, h0, h⟩ := xs_some h
  have e1 := xo_some h0
  obtain ⟨t7, ph8, h0, h⟩ := xb_some h
  refine px_cV0 rfl rfl e1 rfl rfl rfl rfl rfl rfl rfl (r_M_textMany h0 :) (fun _ _ q => nomatch q.2) (fun r ph' q => ?_)
  obtain ⟨rfl, q⟩ := q
  cases q
  refine px_alu rfl rfl rfl ?_
  refine px_ic (k := 0) rfl rfl rfl ?_
  refine px_ic (k := 0) rfl rfl rfl ?_
  refine px_alu rfl rfl rfl ?_
  refine px_alu rfl rfl rfl ?_
  obtain ⟨fs, h0, h⟩ := xs_some h
  have e1 := xo_some h0
  obtain ⟨u0, ph9, h0, h⟩ := xb_some h
  refine px_cV7 rfl rfl e1 rfl rfl rfl rfl rfl rfl rfl (r_M_mergedRows h0 :) (fun _ _ q => nomatch q.2) (fun r ph' q => ?_)
  obtain ⟨rfl, q⟩ := q
  cases q
  refine px_ld rfl rfl rfl rfl rfl ?_
  obtain ⟨fs, h0, h⟩ := xs_some h
  have e1 := xo_some h0
  obtain ⟨u0, ph10, h0, h⟩ := xb_some h
  refine px_cV0 rfl rfl e1 rfl rfl rfl rfl rfl rfl rfl (r_M_mergedLocals h0 :) (fun _ _ q => nomatch q.2) (fun r ph' q => ?_)
  obtain ⟨rfl, q⟩ := q
  cases q
  refine px_ld rfl rfl rfl rfl rfl ?_
  obtain ⟨fs, h0, h⟩ := xs_some h
  have e1 := xo_some h0
  obtain ⟨u0, ph11, h0, h⟩ := xb_some h
  refine px_cV0 rfl rfl e1 rfl rfl rfl rfl rfl rfl rfl (r_M_mergedNames h0 :) (fun _ _ q => nomatch q.2) (fun r ph' q => ?_)
  obtain ⟨rfl, q⟩ := q
  cases q
  refine px_ic (k := 1) rfl rfl rfl ?_
  cases h
  exact px_iret rfl (Or.inr ⟨rfl, Or.inr rfl⟩) rfl ⟨rfl, rfl⟩
def f_M_merges_203 (F : Nat) (k171 : Nat → Int32 → px_H → Option (Int32 × px_H)) (a0 : Nat) (a2 : Int32) (ph : px_H) : Option (Int32 × px_H) :=
  k171 a0 (a2 + nI 1) ph
theorem r_M_merges_203 {l : Launch} {g : px_G} {d F : Nat} {k171 : Nat → Int32 → px_H → Option (Int32 × px_H)} (hk171 : ∀ {a0 : Nat} {a2 : Int32} {ph : px_H} {r : Int32} {ph' : px_H}, k171 a0 a2 ph = some (r, ph') → PW l g (d + 9) m_M_merges 171 [.ref a0, px_u, .int a2] [] ph (px_qI r ph')) {a0 : Nat} {a2 : Int32} {ph : px_H} {r : Int32} {ph' : px_H} (h : f_M_merges_203 F k171 a0 a2 ph = some (r, ph')) : PW l g (d + 9) m_M_merges 203 [.ref a0, px_u, .int a2] [] ph (px_qI r ph') := by
  unfold f_M_merges_203 at h
  refine px_iinc (lv' := [_, _, _]) rfl rfl rfl rfl rfl rfl ?_
  refine px_goto rfl (by decide) rfl ?_
  exact (hk171 h :)
def f_M_merges_171 (F : Nat) : Nat → Nat → Int32 → px_H → Option (Int32 × px_H)
  | 0, _, _, _ => none
  | n + 1, a0, a2, ph =>
    (xgI ph 12 123 a0).bind fun t1 =>
    if t1 ≤ a2 then
      f_M_merges_209 F a0 ph
    else
      (xo ph 12 a0).bind fun _ =>
      xb (f_M_isPart F a0 a2 ((4 : Int64)) ph) fun t2 ph3 =>
      if t2 = 0 then
        (xo ph3 12 a0).bind fun _ =>
        xb (f_M_mergedSection F a0 a2 ph3) fun _ ph4 =>
        f_M_merges_203 F (f_M_merges_171 F n) a0 a2 ph4
      else
        (xo ph3 12 a0).bind fun _ =>
        xb (f_M_mergedSites F a0 a2 ph3) fun _ ph5 =>
        f_M_merges_203 F (f_M_merges_171 F n) a0 a2 ph5
theorem r_M_merges_171 {l : Launch} {g : px_G} {d F : Nat} : ∀ (n : Nat) {a0 : Nat} {a2 : Int32} {ph : px_H} {r : Int32} {ph' : px_H}, f_M_merges_171 F n a0 a2 ph = some (r, ph') → PW l g (d + 9) m_M_merges 171 [.ref a0, px_u, .int a2] [] ph (px_qI r ph') := by
  intro n
  induction n with
  | zero => intro _ _ _ _ _ h; cases h
  | succ n ih =>
    intro a0 a2 ph r ph' h
    unfold f_M_merges_171 at h
    refine px_ld rfl rfl rfl rfl rfl ?_
    refine px_ld rfl rfl rfl rfl rfl ?_
    obtain ⟨t1, h0, h⟩ := xs_some h
    obtain ⟨fs, e1, e2⟩ := xgI_some h0
    refine px_get rfl e1 e2 rfl ?_
    refine px_icge rfl (by decide) rfl (fun hc => ?_) (fun hc => ?_)
    · replace h := (if_pos hc).symm.trans h
      refine px_forget (n := 2) (lv' := [_, _, _]) rfl ?_
      exact (r_M_merges_209 h :)
    · replace h := (if_neg hc).symm.trans h
      refine px_ld rfl rfl rfl rfl rfl ?_
      refine px_ld rfl rfl rfl rfl rfl ?_
      refine px_ldc2 rfl rfl rfl ?_
      obtain ⟨fs, h0, h⟩ := xs_some h
      have e1 := xo_some h0
      obtain ⟨t2, ph3, h0, h⟩ := xb_some h
      refine px_cV2 rfl rfl e1 rfl rfl rfl rfl rfl rfl rfl (r_M_isPart h0 :) (fun _ _ q => nomatch q.2) (fun r ph' q => ?_)
      obtain ⟨rfl, q⟩ := q
      cases q
      refine px_ifeq rfl (by decide) rfl (fun hc => ?_) (fun hc => ?_)
      · replace h := (if_pos hc).symm.trans h
        refine px_ld rfl rfl rfl rfl rfl ?_
        refine px_ld rfl rfl rfl rfl rfl ?_
        obtain ⟨fs, h0, h⟩ := xs_some h
        have e1 := xo_some h0
        obtain ⟨u0, ph4, h0, h⟩ := xb_some h
        refine px_cV1 rfl rfl e1 rfl rfl rfl rfl rfl rfl rfl (r_M_mergedSection h0 :) (fun _ _ q => nomatch q.2) (fun r ph' q => ?_)
        obtain ⟨rfl, q⟩ := q
        cases q
        exact (r_M_merges_203 @ih h :)
      · replace h := (if_neg hc).symm.trans h
        refine px_ld rfl rfl rfl rfl rfl ?_
        refine px_ld rfl rfl rfl rfl rfl ?_
        obtain ⟨fs, h0, h⟩ := xs_some h
        have e1 := xo_some h0
        obtain ⟨u0, ph5, h0, h⟩ := xb_some h
        refine px_cV1 rfl rfl e1 rfl rfl rfl rfl rfl rfl rfl (r_M_mergedSites h0 :) (fun _ _ q => nomatch q.2) (fun r ph' q => ?_)
        obtain ⟨rfl, q⟩ := q
        cases q
        refine px_goto rfl (by decide) rfl ?_
        exact (r_M_merges_203 @ih h :)
def f_M_merges_66 (F : Nat) (a0 : Nat) (a1 : Int32) (ph : px_H) : Option (Int32 × px_H) :=
  (xpI ph 12 4 a0 a1).bind fun ph1 =>
  (xo ph1 12 a0).bind fun _ =>
  xb (f_M_put F a0 (nI 0) ((282584257676671 : Int64)) (nI 8) ph1) fun _ ph2 =>
  (xo ph2 12 a0).bind fun _ =>
  xb (f_M_put F a0 (nI 16) (lN 1) (nI 2) ph2) fun _ ph3 =>
  (xo ph3 12 a0).bind fun _ =>
  xb (f_M_put F a0 (nI 18) ((62 : Int64)) (nI 2) ph3) fun _ ph4 =>
  (xo ph4 12 a0).bind fun _ =>
  xb (f_M_put F a0 (nI 20) (lN 1) (nI 4) ph4) fun _ ph5 =>
  (xo ph5 12 a0).bind fun _ =>
  xb (f_M_mergedRow F a0 (nI 0) ph5) fun t6 ph7 =>
  (xo ph7 12 a0).bind fun _ =>
  xb (f_M_put F a0 (nI 40) t6.toInt64 (nI 8) ph7) fun _ ph8 =>
  (xo ph8 12 a0).bind fun _ =>
  xb (f_M_put F a0 (nI 52) ((64 : Int64)) (nI 2) ph8) fun _ ph9 =>
  (xo ph9 12 a0).bind fun _ =>
  xb (f_M_put F a0 (nI 58) ((64 : Int64)) (nI 2) ph9) fun _ ph10 =>
  (xgI ph10 12 123 a0).bind fun t11 =>
  (xo ph10 12 a0).bind fun _ =>
  xb (f_M_put F a0 (nI 60) ((t11 + (nI 2)).toInt64) (nI 2) ph10) fun _ ph12 =>
  (xgI ph12 12 123 a0).bind fun t13 =>
  (xo ph12 12 a0).bind fun _ =>
  xb (f_M_put F a0 (nI 62) ((t13 + (nI 1)).toInt64) (nI 2) ph12) fun _ ph14 =>
  f_M_merges_171 F F a0 (nI 1) ph14
theorem r_M_merges_66 {l : Launch} {g : px_G} {d F : Nat} {a0 : Nat} {a1 : Int32} {ph : px_H} {r : Int32} {ph' : px_H} (h : f_M_merges_66 F a0 a1 ph = some (r, ph')) : PW l g (d + 9) m_M_merges 66 [.ref a0, .int a1, px_u] [] ph (px_qI r ph') := by
  unfold f_M_merges_66 at h
  refine px_ld rfl rfl rfl rfl rfl ?_
  refine px_ld rfl rfl rfl rfl rfl ?_
  obtain ⟨ph1, h0, h⟩ := xs_some h
  obtain ⟨fs, e1, e2, e3⟩ := xpI_some h0
  subst e3
  refine px_put rfl e1 e2 trivial rfl ?_
  refine px_ld rfl rfl rfl rfl rfl ?_
  refine px_ic (k := 0) rfl rfl rfl ?_
  refine px_ldc2 rfl rfl rfl ?_
  refine px_ic (k := 8) rfl rfl rfl ?_
  obtain ⟨fs, h0, h⟩ := xs_some h
  have e1 := xo_some h0
  obtain ⟨u0, ph2, h0, h⟩ := xb_some h
  refine px_cV3 rfl rfl e1 rfl rfl rfl rfl rfl rfl rfl (r_M_put h0 :) (fun _ _ q => nomatch q.2) (fun r ph' q => ?_)
  obtain ⟨rfl, q⟩ := q
  cases q
  refine px_ld rfl rfl rfl rfl rfl ?_
  refine px_ic (k := 16) rfl rfl rfl ?_
  refine px_alu rfl rfl rfl ?_
  refine px_ic (k := 2) rfl rfl rfl ?_
  obtain ⟨fs, h0, h⟩ := xs_some h
  have e1 := xo_some h0
  obtain ⟨u0, ph3, h0, h⟩ := xb_some h
  refine px_cV3 rfl rfl e1 rfl rfl rfl rfl rfl rfl rfl (r_M_put h0 :) (fun _ _ q => nomatch q.2) (fun r ph' q => ?_)
  obtain ⟨rfl, q⟩ := q
  cases q
  refine px_ld rfl rfl rfl rfl rfl ?_
  refine px_ic (k := 18) rfl rfl rfl ?_
  refine px_ldc2 rfl rfl rfl ?_
  refine px_ic (k := 2) rfl rfl rfl ?_
  obtain ⟨fs, h0, h⟩ := xs_some h
  have e1 := xo_some h0
  obtain ⟨u0, ph4, h0, h⟩ := xb_some h
  refine px_cV3 rfl rfl e1 rfl rfl rfl rfl rfl rfl rfl (r_M_put h0 :) (fun _ _ q => nomatch q.2) (fun r ph' q => ?_)
  obtain ⟨rfl, q⟩ := q
  cases q
  refine px_ld rfl rfl rfl rfl rfl ?_
  refine px_ic (k := 20) rfl rfl rfl ?_
  refine px_alu rfl rfl rfl ?_
  refine px_ic (k := 4) rfl rfl rfl ?_
  obtain ⟨fs, h0, h⟩ := xs_some h
  have e1 := xo_some h0
  obtain ⟨u0, ph5, h0, h⟩ := xb_some h
  refine px_cV3 rfl rfl e1 rfl rfl rfl rfl rfl rfl rfl (r_M_put h0 :) (fun _ _ q => nomatch q.2) (fun r ph' q => ?_)
  obtain ⟨rfl, q⟩ := q
  cases q
  refine px_ld rfl rfl rfl rfl rfl ?_
  refine px_ic (k := 40) rfl rfl rfl ?_
  refine px_ld rfl rfl rfl rfl rfl ?_
  refine px_ic (k := 0) rfl rfl rfl ?_
  obtain ⟨fs, h0, h⟩ := xs_some h
  have e1 := xo_some h0
  obtain ⟨t6, ph7, h0, h⟩ := xb_some h
  refine px_cV1 rfl rfl e1 rfl rfl rfl rfl rfl rfl rfl (r_M_mergedRow h0 :) (fun _ _ q => nomatch q.2) (fun r ph' q => ?_)
  obtain ⟨rfl, q⟩ := q
  cases q
  refine px_alu rfl rfl rfl ?_
  refine px_ic (k := 8) rfl rfl rfl ?_
  obtain ⟨fs, h0, h⟩ := xs_some h
  have e1 := xo_some h0
  obtain ⟨u0, ph8, h0, h⟩ := xb_some h
  refine px_cV3 rfl rfl e1 rfl rfl rfl rfl rfl rfl rfl (r_M_put h0 :) (fun _ _ q => nomatch q.2) (fun r ph' q => ?_)
  obtain ⟨rfl, q⟩ := q
  cases q
  refine px_ld rfl rfl rfl rfl rfl ?_
  refine px_ic (k := 52) rfl rfl rfl ?_
  refine px_ldc2 rfl rfl rfl ?_
  refine px_ic (k := 2) rfl rfl rfl ?_
  obtain ⟨fs, h0, h⟩ := xs_some h
  have e1 := xo_some h0
  obtain ⟨u0, ph9, h0, h⟩ := xb_some h
  refine px_cV3 rfl rfl e1 rfl rfl rfl rfl rfl rfl rfl (r_M_put h0 :) (fun _ _ q => nomatch q.2) (fun r ph' q => ?_)
  obtain ⟨rfl, q⟩ := q
  cases q
  refine px_ld rfl rfl rfl rfl rfl ?_
  refine px_ic (k := 58) rfl rfl rfl ?_
  refine px_ldc2 rfl rfl rfl ?_
  refine px_ic (k := 2) rfl rfl rfl ?_
  obtain ⟨fs, h0, h⟩ := xs_some h
  have e1 := xo_some h0
  obtain ⟨u0, ph10, h0, h⟩ := xb_some h
  refine px_cV3 rfl rfl e1 rfl rfl rfl rfl rfl rfl rfl (r_M_put h0 :) (fun _ _ q => nomatch q.2) (fun r ph' q => ?_)
  obtain ⟨rfl, q⟩ := q
  cases q
  refine px_ld rfl rfl rfl rfl rfl ?_
  refine px_ic (k := 60) rfl rfl rfl ?_
  refine px_ld rfl rfl rfl rfl rfl ?_
  obtain ⟨t11, h0, h⟩ := xs_some h
  obtain ⟨fs, e1, e2⟩ := xgI_some h0
  refine px_get rfl e1 e2 rfl ?_
  refine px_ic (k := 2) rfl rfl rfl ?_
  refine px_alu rfl rfl rfl ?_
  refine px_alu rfl rfl rfl ?_
  refine px_ic (k := 2) rfl rfl rfl ?_
  obtain ⟨fs, h0, h⟩ := xs_some h
  have e1 := xo_some h0
  obtain ⟨u0, ph12, h0, h⟩ := xb_some h
  refine px_cV3 rfl rfl e1 rfl rfl rfl rfl rfl rfl rfl (r_M_put h0 :) (fun _ _ q => nomatch q.2) (fun r ph' q => ?_)
  obtain ⟨rfl, q⟩ := q
  cases q
  refine px_ld rfl rfl rfl rfl rfl ?_
  refine px_ic (k := 62) rfl rfl rfl ?_
  refine px_ld rfl rfl rfl rfl rfl ?_
  obtain ⟨t13, h0, h⟩ := xs_some h
  obtain ⟨fs, e1, e2⟩ := xgI_some h0
  refine px_get rfl e1 e2 rfl ?_
  refine px_ic (k := 1) rfl rfl rfl ?_
  refine px_alu rfl rfl rfl ?_
  refine px_alu rfl rfl rfl ?_
  refine px_ic (k := 2) rfl rfl rfl ?_
  obtain ⟨fs, h0, h⟩ := xs_some h
  have e1 := xo_some h0
  obtain ⟨u0, ph14, h0, h⟩ := xb_some h
  refine px_cV3 rfl rfl e1 rfl rfl rfl rfl rfl rfl rfl (r_M_put h0 :) (fun _ _ q => nomatch q.2) (fun r ph' q => ?_)
  obtain ⟨rfl, q⟩ := q
  cases q
  refine px_ic (k := 1) rfl rfl rfl ?_
  refine px_st (lv' := [_, _, _]) rfl rfl rfl rfl rfl rfl rfl ?_
  refine px_forget (n := 1) (lv' := [_, _, _]) rfl ?_
  exact (r_M_merges_171 _ h :)
def f_M_merges_48 (F : Nat) : Nat → Nat → Int32 → Int32 → px_H → Option (Int32 × px_H)
  | 0, _, _, _, _ => none
  | n + 1, a0, a1, a2, ph =>
    if a1 ≤ a2 then
      f_M_merges_66 F a0 a1 ph
    else
      (xgR ph 12 3 a0).bind fun t1 =>
      (xsI ph 0 t1 a2 ((nI 0).toInt8.toInt32)).bind fun ph2 =>
      f_M_merges_48 F n a0 a1 (a2 + nI 1) ph2
theorem r_M_merges_48 {l : Launch} {g : px_G} {d F : Nat} : ∀ (n : Nat) {a0 : Nat} {a1 : Int32} {a2 : Int32} {ph : px_H} {r : Int32} {ph' : px_H}, f_M_merges_48 F n a0 a1 a2 ph = some (r, ph') → PW l g (d + 9) m_M_merges 48 [.ref a0, .int a1, .int a2] [] ph (px_qI r ph') := by
  intro n
  induction n with
  | zero => intro _ _ _ _ _ _ h; cases h
  | succ n ih =>
    intro a0 a1 a2 ph r ph' h
    unfold f_M_merges_48 at h
    refine px_ld rfl rfl rfl rfl rfl ?_
    refine px_ld rfl rfl rfl rfl rfl ?_
    refine px_icge rfl (by decide) rfl (fun hc => ?_) (fun hc => ?_)
    · replace h := (if_pos hc).symm.trans h
      refine px_forget (n := 2) (lv' := [_, _, _]) rfl ?_
      exact (r_M_merges_66 h :)
    · replace h := (if_neg hc).symm.trans h
      refine px_ld rfl rfl rfl rfl rfl ?_
      obtain ⟨t1, h0, h⟩ := xs_some h
      obtain ⟨fs, e1, e2⟩ := xgR_some h0
      refine px_get rfl e1 e2 rfl ?_
      refine px_ld rfl rfl rfl rfl rfl ?_
      refine px_ic (k := 0) rfl rfl rfl ?_
      obtain ⟨ph2, h0, h⟩ := xs_some h
      obtain ⟨N, f, e1, e2, e3⟩ := xsI_some h0
      subst e3
      refine px_bast rfl e1 rfl e2 rfl ?_
      refine px_iinc (lv' := [_, _, _]) rfl rfl rfl rfl rfl rfl ?_
      refine px_goto rfl (by decide) rfl ?_
      exact (ih h :)
def f_M_merges_24 (F : Nat) (ph : px_H) : Option (Int32 × px_H) :=
  some (nI 0, ph)
theorem r_M_merges_24 {l : Launch} {g : px_G} {d F : Nat} {ph : px_H} {r : Int32} {ph' : px_H} (h : f_M_merges_24 F ph = some (r, ph')) : PW l g (d + 9) m_M_merges 24 [px_u, px_u, px_u] [] ph (px_qI r ph') := by
  unfold f_M_merges_24 at h
  refine px_ic (k := 0) rfl rfl rfl ?_
  cases h
  exact px_iret rfl (Or.inr ⟨rfl, Or.inl rfl⟩) rfl ⟨rfl, rfl⟩
def f_M_merges (F : Nat) (a0 : Nat) (ph : px_H) : Option (Int32 × px_H) :=
  (xo ph 12 a0).bind fun _ =>
  xb (f_M_countParts F a0 ph) fun _ ph1 =>
  (xo ph1 12 a0).bind fun _ =>
  xb (f_M_countSymbols F a0 ph1) fun _ ph2 =>
  (xgI ph2 12 126 a0).bind fun t3 =>
  if t3 = 0 then
    (xgI ph2 12 125 a0).bind fun t4 =>
    if t4 ≤ (nI 64) then
      (xgI ph2 12 123 a0).bind fun t5 =>
      (xo ph2 12 a0).bind fun _ =>
      xb (f_M_mergedRow F a0 (t5 + (nI 2)) ph2) fun t6 ph7 =>
      if t6 ≤ (nI 8192) then
        f_M_merges_48 F F a0 t6 (nI 0) ph7
      else
        some (nI 0, ph7)
    else
      f_M_merges_24 F ph2
  else
    f_M_merges_24 F ph2
theorem r_M_merges {l : Launch} {g : px_G} {d F : Nat} {a0 : Nat} {ph : px_H} {r : Int32} {ph' : px_H} (h : f_M_merges F a0 ph = some (r, ph')) : PW l g (d + 9) m_M_merges 0 [.ref a0, px_u, px_u] [] ph (px_qI r ph') := by
  unfold f_M_merges at h
  refine px_ld rfl rfl rfl rfl rfl ?_
  obtain ⟨fs, h0, h⟩ := xs_some h
  have e1 := xo_some h0
  obtain ⟨u0, ph1, h0, h⟩ := xb_some h
  refine px_cV0 rfl rfl e1 rfl rfl rfl rfl rfl rfl rfl (r_M_countParts h0 :) (fun _ _ q => nomatch q.2) (fun r ph' q => ?_)
  obtain ⟨rfl, q⟩ := q
  cases q
  refine px_ld rfl rfl rfl rfl rfl ?_
  obtain ⟨fs, h0, h⟩ := xs_some h
  have e1 := xo_some h0
  obtain ⟨u0, ph2, h0, h⟩ := xb_some h
  refine px_cV0 rfl rfl e1 rfl rfl rfl rfl rfl rfl rfl (r_M_countSymbols h0 :) (fun _ _ q => nomatch q.2) (fun r ph' q => ?_)
  obtain ⟨rfl, q⟩ := q
  cases q
  refine px_ld rfl rfl rfl rfl rfl ?_
  obtain ⟨t3, h0, h⟩ := xs_some h
  obtain ⟨fs, e1, e2⟩ := xgI_some h0
  refine px_get rfl e1 e2 rfl ?_
  refine px_ifne rfl (by decide) rfl (fun hc => ?_) (fun hc => ?_)
  · replace h := (if_neg hc).symm.trans h
    refine px_forget (n := 0) (lv' := [_, _, _]) rfl ?_
    exact (r_M_merges_24 h :)
  · replace h := (if_pos hc).symm.trans h
    refine px_ld rfl rfl rfl rfl rfl ?_
    obtain ⟨t4, h0, h⟩ := xs_some h
    obtain ⟨fs, e1, e2⟩ := xgI_some h0
    refine px_get rfl e1 e2 rfl ?_
    refine px_ic (k := 64) rfl rfl rfl ?_
    refine px_icle rfl (by decide) rfl (fun hc => ?_) (fun hc => ?_)
    · replace h := (if_pos hc).symm.trans h
      refine px_ld rfl rfl rfl rfl rfl ?_
      refine px_ld rfl rfl rfl rfl rfl ?_
      obtain ⟨t5, h0, h⟩ := xs_some h
      obtain ⟨fs, e1, e2⟩ := xgI_some h0
      refine px_get rfl e1 e2 rfl ?_
      refine px_ic (k := 2) rfl rfl rfl ?_
      refine px_alu rfl rfl rfl ?_
      obtain ⟨fs, h0, h⟩ := xs_some h
      have e1 := xo_some h0
      obtain ⟨t6, ph7, h0, h⟩ := xb_some h
      refine px_cV1 rfl rfl e1 rfl rfl rfl rfl rfl rfl rfl (r_M_mergedRow h0 :) (fun _ _ q => nomatch q.2) (fun r ph' q => ?_)
      obtain ⟨rfl, q⟩ := q
      cases q
      refine px_st (lv' := [_, _, _]) rfl rfl rfl rfl rfl rfl rfl ?_
      refine px_ld rfl rfl rfl rfl rfl ?_
      refine px_ic (k := 8192) rfl rfl rfl ?_
      refine px_icle rfl (by decide) rfl (fun hc => ?_) (fun hc => ?_)
      · replace h := (if_pos hc).symm.trans h
        refine px_ic (k := 0) rfl rfl rfl ?_
        refine px_st (lv' := [_, _, _]) rfl rfl rfl rfl rfl rfl rfl ?_
        exact (r_M_merges_48 _ h :)
      · replace h := (if_neg hc).symm.trans h
        refine px_ic (k := 0) rfl rfl rfl ?_
        cases h
        exact px_iret rfl (Or.inr ⟨rfl, Or.inl rfl⟩) rfl ⟨rfl, rfl⟩
    · replace h := (if_neg hc).symm.trans h
      refine px_forget (n := 0) (lv' := [_, _, _]) rfl ?_
      exact (r_M_merges_24 h :)
def f_M_merge_27 (F : Nat) (s0 : Int32) (ph : px_H) : Option (Int32 × px_H) :=
  some (s0, ph)
theorem r_M_merge_27 {l : Launch} {g : px_G} {d F : Nat} {s0 : Int32} {ph : px_H} {r : Int32} {ph' : px_H} (h : f_M_merge_27 F s0 ph = some (r, ph')) : PW l g (d + 16) m_M_merge 27 [px_u, px_u] [.int s0] ph (px_qI r ph') := by
  unfold f_M_merge_27 at h
  cases h
  exact px_iret rfl (Or.inl rfl) rfl ⟨rfl, rfl⟩
def f_M_merge (F : Nat) (a0 : Nat) (ph : px_H) : Option (Int32 × px_H) :=
  (xo ph 12 a0).bind fun _ =>
  xb (f_M_link F a0 (nI 0) ph) fun t1 ph2 =>
  if t1 = (nI 1) then
    f_M_merge_27 F (nI 1) ph2
  else
    (xo ph2 12 a0).bind fun _ =>
    xb (f_M_merges F a0 ph2) fun t3 ph4 =>
    if t3 = 0 then
      f_M_merge_27 F (Int32.ofInt (-1)) ph4
    else
      f_M_merge_27 F t1 ph4
theorem r_M_merge {l : Launch} {g : px_G} {d F : Nat} {a0 : Nat} {ph : px_H} {r : Int32} {ph' : px_H} (h : f_M_merge F a0 ph = some (r, ph')) : PW l g (d + 16) m_M_merge 0 [.ref a0, px_u] [] ph (px_qI r ph') := by
  unfold f_M_merge at h
  refine px_ld rfl rfl rfl rfl rfl ?_
  refine px_ic (k := 0) rfl rfl rfl ?_
  obtain ⟨fs, h0, h⟩ := xs_some h
  have e1 := xo_some h0
  obtain ⟨t1, ph2, h0, h⟩ := xb_some h
  refine px_cV1 rfl rfl e1 rfl rfl rfl rfl rfl rfl rfl (r_M_link h0 :) (fun _ _ q => nomatch q.2) (fun r ph' q => ?_)
  obtain ⟨rfl, q⟩ := q
  cases q
  refine px_st (lv' := [_, _]) rfl rfl rfl rfl rfl rfl rfl ?_
  refine px_ld rfl rfl rfl rfl rfl ?_
  refine px_ic (k := 1) rfl rfl rfl ?_
  refine px_icne rfl rfl rfl (fun hc => ?_) (fun hc => ?_)
  · replace h := (if_neg hc).symm.trans h
    refine px_ld rfl rfl rfl rfl rfl ?_
    obtain ⟨fs, h0, h⟩ := xs_some h
    have e1 := xo_some h0
    obtain ⟨t3, ph4, h0, h⟩ := xb_some h
    refine px_cV0 rfl rfl e1 rfl rfl rfl rfl rfl rfl rfl (r_M_merges h0 :) (fun _ _ q => nomatch q.2) (fun r ph' q => ?_)
    obtain ⟨rfl, q⟩ := q
    cases q
    refine px_ifeq rfl rfl rfl (fun hc => ?_) (fun hc => ?_)
    · replace h := (if_pos hc).symm.trans h
      refine px_alu rfl rfl rfl ?_
      refine px_forget (n := 0) (lv' := [_, _]) rfl ?_
      refine px_forget (n := 1) (lv' := [_, _]) rfl ?_
      exact (r_M_merge_27 h :)
    · replace h := (if_neg hc).symm.trans h
      refine px_ld rfl rfl rfl rfl rfl ?_
      refine px_goto rfl rfl rfl ?_
      refine px_forget (n := 0) (lv' := [_, _]) rfl ?_
      refine px_forget (n := 1) (lv' := [_, _]) rfl ?_
      exact (r_M_merge_27 h :)
  · replace h := (if_pos hc).symm.trans h
    refine px_ic (k := 1) rfl rfl rfl ?_
    refine px_goto rfl rfl rfl ?_
    refine px_forget (n := 0) (lv' := [_, _]) rfl ?_
    refine px_forget (n := 1) (lv' := [_, _]) rfl ?_
    exact (r_M_merge_27 h :)
def f_M_findObjects_106 (F : Nat) (ph : px_H) : Option (Unit × px_H) :=
  some ((), ph)
theorem r_M_findObjects_106 {l : Launch} {g : px_G} {d F : Nat} {ph : px_H} {r : Unit} {ph' : px_H} (h : f_M_findObjects_106 F ph = some (r, ph')) : PW l g (d + 0) m_M_findObjects 106 [px_u, px_u, px_u] [] ph (px_qV r ph') := by
  unfold f_M_findObjects_106 at h
  cases h
  exact px_vret rfl rfl rfl ⟨rfl, rfl⟩
def f_M_findObjects_100 (F : Nat) (k7 : Nat → Int32 → px_H → Option (Unit × px_H)) (a0 : Nat) (a1 : Int32) (ph : px_H) : Option (Unit × px_H) :=
  k7 a0 (a1 + nI 1) ph
theorem r_M_findObjects_100 {l : Launch} {g : px_G} {d F : Nat} {k7 : Nat → Int32 → px_H → Option (Unit × px_H)} (hk7 : ∀ {a0 : Nat} {a1 : Int32} {ph : px_H} {r : Unit} {ph' : px_H}, k7 a0 a1 ph = some (r, ph') → PW l g (d + 0) m_M_findObjects 7 [.ref a0, .int a1, px_u] [] ph (px_qV r ph')) {a0 : Nat} {a1 : Int32} {ph : px_H} {r : Unit} {ph' : px_H} (h : f_M_findObjects_100 F k7 a0 a1 ph = some (r, ph')) : PW l g (d + 0) m_M_findObjects 100 [.ref a0, .int a1, px_u] [] ph (px_qV r ph') := by
  unfold f_M_findObjects_100 at h
  refine px_iinc (lv' := [_, _, _]) rfl rfl rfl rfl rfl rfl ?_
  refine px_goto rfl (by decide) rfl ?_
  exact (hk7 h :)
def f_M_findObjects_94 (F : Nat) (k7 : Nat → Int32 → px_H → Option (Unit × px_H)) (k17 : Nat → Int32 → Int32 → px_H → Option (Unit × px_H)) (a0 : Nat) (a1 : Int32) (a2 : Int32) (ph : px_H) : Option (Unit × px_H) :=
  k17 a0 a1 (a2 + nI 1) ph
theorem r_M_findObjects_94 {l : Launch} {g : px_G} {d F : Nat} {k7 : Nat → Int32 → px_H → Option (Unit × px_H)} (hk7 : ∀ {a0 : Nat} {a1 : Int32} {ph : px_H} {r : Unit} {ph' : px_H}, k7 a0 a1 ph = some (r, ph') → PW l g (d + 0) m_M_findObjects 7 [.ref a0, .int a1, px_u] [] ph (px_qV r ph')) {k17 : Nat → Int32 → Int32 → px_H → Option (Unit × px_H)} (hk17 : ∀ {a0 : Nat} {a1 : Int32} {a2 : Int32} {ph : px_H} {r : Unit} {ph' : px_H}, k17 a0 a1 a2 ph = some (r, ph') → PW l g (d + 0) m_M_findObjects 17 [.ref a0, .int a1, .int a2] [] ph (px_qV r ph')) {a0 : Nat} {a1 : Int32} {a2 : Int32} {ph : px_H} {r : Unit} {ph' : px_H} (h : f_M_findObjects_94 F k7 k17 a0 a1 a2 ph = some (r, ph')) : PW l g (d + 0) m_M_findObjects 94 [.ref a0, .int a1, .int a2] [] ph (px_qV r ph') := by
  unfold f_M_findObjects_94 at h
  refine px_iinc (lv' := [_, _, _]) rfl rfl rfl rfl rfl rfl ?_
  refine px_goto rfl (by decide) rfl ?_
  exact (hk17 h :)
def f_M_findObjects_17 (F : Nat) (k7 : Nat → Int32 → px_H → Option (Unit × px_H)) : Nat → Nat → Int32 → Int32 → px_H → Option (Unit × px_H)
  | 0, _, _, _, _ => none
  | n + 1, a0, a1, a2, ph =>
    (xgR ph 12 8 a0).bind fun t1 =>
    (xaI ph 1 t1 a1).bind fun t2 =>
    if t2 ≤ a2 then
      f_M_findObjects_100 F k7 a0 a1 ph
    else
      (xgR ph 12 12 a0).bind fun t3 =>
      (xaI ph 3 t3 (((nI 8) * a1) + a2)).bind fun t4 =>
      if t4 = 0 then
        (xgR ph 12 128 a0).bind fun t5 =>
        (xgI ph 12 127 a0).bind fun t6 =>
        (xgR ph 12 9 a0).bind fun t7 =>
        (xaI ph 1 t7 (((nI 8) * a1) + a2)).bind fun t8 =>
        (xsI ph 1 t5 t6 t8).bind fun ph9 =>
        (xgR ph9 12 129 a0).bind fun t10 =>
        (xgI ph9 12 127 a0).bind fun t11 =>
        (xgR ph9 12 10 a0).bind fun t12 =>
        (xaI ph9 1 t12 (((nI 8) * a1) + a2)).bind fun t13 =>
        (xsI ph9 1 t10 t11 t13).bind fun ph14 =>
        (xgI ph14 12 127 a0).bind fun t15 =>
        (xpI ph14 12 127 a0 (t15 + (nI 1))).bind fun ph16 =>
        f_M_findObjects_94 F k7 (f_M_findObjects_17 F k7 n) a0 a1 a2 ph16
      else
        f_M_findObjects_94 F k7 (f_M_findObjects_17 F k7 n) a0 a1 a2 ph
theorem r_M_findObjects_17 {l : Launch} {g : px_G} {d F : Nat} {k7 : Nat → Int32 → px_H → Option (Unit × px_H)} (hk7 : ∀ {a0 : Nat} {a1 : Int32} {ph : px_H} {r : Unit} {ph' : px_H}, k7 a0 a1 ph = some (r, ph') → PW l g (d + 0) m_M_findObjects 7 [.ref a0, .int a1, px_u] [] ph (px_qV r ph')) : ∀ (n : Nat) {a0 : Nat} {a1 : Int32} {a2 : Int32} {ph : px_H} {r : Unit} {ph' : px_H}, f_M_findObjects_17 F k7 n a0 a1 a2 ph = some (r, ph') → PW l g (d + 0) m_M_findObjects 17 [.ref a0, .int a1, .int a2] [] ph (px_qV r ph') := by
  intro n
  induction n with
  | zero => intro _ _ _ _ _ _ h; cases h
  | succ n ih =>
    intro a0 a1 a2 ph r ph' h
    unfold f_M_findObjects_17 at h
    refine px_ld rfl rfl rfl rfl rfl ?_
    refine px_ld rfl rfl rfl rfl rfl ?_
    obtain ⟨t1, h0, h⟩ := xs_some h
    obtain ⟨fs, e1, e2⟩ := xgR_some h0
    refine px_get rfl e1 e2 rfl ?_
    refine px_ld rfl rfl rfl rfl rfl ?_
    obtain ⟨t2, h0, h⟩ := xs_some h
    obtain ⟨N, f, e1, e2, e3⟩ := xaI_some h0
    subst e3
    refine px_iald rfl e1 rfl e2 rfl ?_
    refine px_icge rfl (by decide) rfl (fun hc => ?_) (fun hc => ?_)
    · replace h := (if_pos hc).symm.trans h
      refine px_forget (n := 2) (lv' := [_, _, _]) rfl ?_
      exact (r_M_findObjects_100 @hk7 h :)
    · replace h := (if_neg hc).symm.trans h
      refine px_ld rfl rfl rfl rfl rfl ?_
      obtain ⟨t3, h0, h⟩ := xs_some h
      obtain ⟨fs, e1, e2⟩ := xgR_some h0
      refine px_get rfl e1 e2 rfl ?_
      refine px_ic (k := 8) rfl rfl rfl ?_
      refine px_ld rfl rfl rfl rfl rfl ?_
      refine px_alu rfl rfl rfl ?_
      refine px_ld rfl rfl rfl rfl rfl ?_
      refine px_alu rfl rfl rfl ?_
      obtain ⟨t4, h0, h⟩ := xs_some h
      obtain ⟨N, f, e1, e2, e3⟩ := xaI_some h0
      subst e3
      refine px_zald rfl e1 rfl e2 rfl ?_
      refine px_ifeq rfl (by decide) rfl (fun hc => ?_) (fun hc => ?_)
      · replace h := (if_pos hc).symm.trans h
        refine px_ld rfl rfl rfl rfl rfl ?_
        obtain ⟨t5, h0, h⟩ := xs_some h
        obtain ⟨fs, e1, e2⟩ := xgR_some h0
        refine px_get rfl e1 e2 rfl ?_
        refine px_ld rfl rfl rfl rfl rfl ?_
        obtain ⟨t6, h0, h⟩ := xs_some h
        obtain ⟨fs, e1, e2⟩ := xgI_some h0
        refine px_get rfl e1 e2 rfl ?_
        refine px_ld rfl rfl rfl rfl rfl ?_
        obtain ⟨t7, h0, h⟩ := xs_some h
        obtain ⟨fs, e1, e2⟩ := xgR_some h0
        refine px_get rfl e1 e2 rfl ?_
        refine px_ic (k := 8) rfl rfl rfl ?_
        refine px_ld rfl rfl rfl rfl rfl ?_
        refine px_alu rfl rfl rfl ?_
        refine px_ld rfl rfl rfl rfl rfl ?_
        refine px_alu rfl rfl rfl ?_
        obtain ⟨t8, h0, h⟩ := xs_some h
        obtain ⟨N, f, e1, e2, e3⟩ := xaI_some h0
        subst e3
        refine px_iald rfl e1 rfl e2 rfl ?_
        obtain ⟨ph9, h0, h⟩ := xs_some h
        obtain ⟨N, f, e1, e2, e3⟩ := xsI_some h0
        subst e3
        refine px_iast rfl e1 rfl e2 rfl ?_
        refine px_ld rfl rfl rfl rfl rfl ?_
        obtain ⟨t10, h0, h⟩ := xs_some h
        obtain ⟨fs, e1, e2⟩ := xgR_some h0
        refine px_get rfl e1 e2 rfl ?_
        refine px_ld rfl rfl rfl rfl rfl ?_
        obtain ⟨t11, h0, h⟩ := xs_some h
        obtain ⟨fs, e1, e2⟩ := xgI_some h0
        refine px_get rfl e1 e2 rfl ?_
        refine px_ld rfl rfl rfl rfl rfl ?_
        obtain ⟨t12, h0, h⟩ := xs_some h
        obtain ⟨fs, e1, e2⟩ := xgR_some h0
        refine px_get rfl e1 e2 rfl ?_
        refine px_ic (k := 8) rfl rfl rfl ?_
        refine px_ld rfl rfl rfl rfl rfl ?_
        refine px_alu rfl rfl rfl ?_
        refine px_ld rfl rfl rfl rfl rfl ?_
        refine px_alu rfl rfl rfl ?_
        obtain ⟨t13, h0, h⟩ := xs_some h
        obtain ⟨N, f, e1, e2, e3⟩ := xaI_some h0
        subst e3
        refine px_iald rfl e1 rfl e2 rfl ?_
        obtain ⟨ph14, h0, h⟩ := xs_some h
        obtain ⟨N, f, e1, e2, e3⟩ := xsI_some h0
        subst e3
        refine px_iast rfl e1 rfl e2 rfl ?_
        refine px_ld rfl rfl rfl rfl rfl ?_
        refine px_alu rfl rfl rfl ?_
        obtain ⟨t15, h0, h⟩ := xs_some h
        obtain ⟨fs, e1, e2⟩ := xgI_some h0
        refine px_get rfl e1 e2 rfl ?_
        refine px_ic (k := 1) rfl rfl rfl ?_
        refine px_alu rfl rfl rfl ?_
        obtain ⟨ph16, h0, h⟩ := xs_some h
        obtain ⟨fs, e1, e2, e3⟩ := xpI_some h0
        subst e3
        refine px_put rfl e1 e2 trivial rfl ?_
        exact (r_M_findObjects_94 @hk7 @ih h :)
      · replace h := (if_neg hc).symm.trans h
        refine px_goto rfl (by decide) rfl ?_
        exact (r_M_findObjects_94 @hk7 @ih h :)
def f_M_findObjects_7 (F : Nat) : Nat → Nat → Int32 → px_H → Option (Unit × px_H)
  | 0, _, _, _ => none
  | n + 1, a0, a1, ph =>
    (xgI ph 12 5 a0).bind fun t1 =>
    if t1 ≤ a1 then
      f_M_findObjects_106 F ph
    else
      f_M_findObjects_17 F (f_M_findObjects_7 F n) F a0 a1 (nI 0) ph
theorem r_M_findObjects_7 {l : Launch} {g : px_G} {d F : Nat} : ∀ (n : Nat) {a0 : Nat} {a1 : Int32} {ph : px_H} {r : Unit} {ph' : px_H}, f_M_findObjects_7 F n a0 a1 ph = some (r, ph') → PW l g (d + 0) m_M_findObjects 7 [.ref a0, .int a1, px_u] [] ph (px_qV r ph') := by
  intro n
  induction n with
  | zero => intro _ _ _ _ _ h; cases h
  | succ n ih =>
    intro a0 a1 ph r ph' h
    unfold f_M_findObjects_7 at h
    refine px_ld rfl rfl rfl rfl rfl ?_
    refine px_ld rfl rfl rfl rfl rfl ?_
    obtain ⟨t1, h0, h⟩ := xs_some h
    obtain ⟨fs, e1, e2⟩ := xgI_some h0
    refine px_get rfl e1 e2 rfl ?_
    refine px_icge rfl (by decide) rfl (fun hc => ?_) (fun hc => ?_)
    · replace h := (if_pos hc).symm.trans h
      refine px_forget (n := 0) (lv' := [_, _, _]) rfl ?_
      refine px_forget (n := 1) (lv' := [_, _, _]) rfl ?_
      exact (r_M_findObjects_106 h :)
    · replace h := (if_neg hc).symm.trans h
      refine px_ic (k := 0) rfl rfl rfl ?_
      refine px_st (lv' := [_, _, _]) rfl rfl rfl rfl rfl rfl rfl ?_
      exact (r_M_findObjects_17 @ih _ h :)
def f_M_findObjects (F : Nat) (a0 : Nat) (ph : px_H) : Option (Unit × px_H) :=
  (xpI ph 12 127 a0 (nI 0)).bind fun ph1 =>
  f_M_findObjects_7 F F a0 (nI 0) ph1
theorem r_M_findObjects {l : Launch} {g : px_G} {d F : Nat} {a0 : Nat} {ph : px_H} {r : Unit} {ph' : px_H} (h : f_M_findObjects F a0 ph = some (r, ph')) : PW l g (d + 0) m_M_findObjects 0 [.ref a0, px_u, px_u] [] ph (px_qV r ph') := by
  unfold f_M_findObjects at h
  refine px_ld rfl rfl rfl rfl rfl ?_
  refine px_ic (k := 0) rfl rfl rfl ?_
  obtain ⟨ph1, h0, h⟩ := xs_some h
  obtain ⟨fs, e1, e2, e3⟩ := xpI_some h0
  subst e3
  refine px_put rfl e1 e2 trivial rfl ?_
  refine px_ic (k := 0) rfl rfl rfl ?_
  refine px_st (lv' := [_, _, _]) rfl rfl rfl rfl rfl rfl rfl ?_
  exact (r_M_findObjects_7 _ h :)
def f_M_isDefining_23 (F : Nat) (s0 : Int32) (ph : px_H) : Option (Int32 × px_H) :=
  xz s0 ph
theorem r_M_isDefining_23 {l : Launch} {g : px_G} {d F : Nat} {s0 : Int32} {ph : px_H} {r : Int32} {ph' : px_H} (h : f_M_isDefining_23 F s0 ph = some (r, ph')) : PW l g (d + 6) m_M_isDefining 23 [px_u, px_u, px_u] [.int s0] ph (px_qI r ph') := by
  unfold f_M_isDefining_23 at h
  obtain ⟨e0, e1, e2⟩ := xz_some h
  subst e1 e2
  exact px_iret rfl (Or.inr ⟨rfl, e0⟩) rfl ⟨rfl, rfl⟩
def f_M_isDefining_22 (F : Nat) (ph : px_H) : Option (Int32 × px_H) :=
  f_M_isDefining_23 F (nI 0) ph
theorem r_M_isDefining_22 {l : Launch} {g : px_G} {d F : Nat} {ph : px_H} {r : Int32} {ph' : px_H} (h : f_M_isDefining_22 F ph = some (r, ph')) : PW l g (d + 6) m_M_isDefining 22 [px_u, px_u, px_u] [] ph (px_qI r ph') := by
  unfold f_M_isDefining_22 at h
  refine px_ic (k := 0) rfl rfl rfl ?_
  exact (r_M_isDefining_23 h :)
def f_M_isDefining (F : Nat) (a0 : Nat) (a1 : Int32) (a2 : Int32) (ph : px_H) : Option (Int32 × px_H) :=
  (xo ph 12 a0).bind fun _ =>
  xb (f_M_bind F a0 a1 a2 ph) fun t1 ph2 =>
  if t1 = 0 then
    f_M_isDefining_22 F ph2
  else
    (xo ph2 12 a0).bind fun _ =>
    xb (f_M_where F a0 a1 a2 ph2) fun t3 ph4 =>
    if t3 = 0 then
      f_M_isDefining_22 F ph4
    else
      f_M_isDefining_23 F (nI 1) ph4
theorem r_M_isDefining {l : Launch} {g : px_G} {d F : Nat} {a0 : Nat} {a1 : Int32} {a2 : Int32} {ph : px_H} {r : Int32} {ph' : px_H} (h : f_M_isDefining F a0 a1 a2 ph = some (r, ph')) : PW l g (d + 6) m_M_isDefining 0 [.ref a0, .int a1, .int a2] [] ph (px_qI r ph') := by
  unfold f_M_isDefining at h
  refine px_ld rfl rfl rfl rfl rfl ?_
  refine px_ld rfl rfl rfl rfl rfl ?_
  refine px_ld rfl rfl rfl rfl rfl ?_
  obtain ⟨fs, h0, h⟩ := xs_some h
  have e1 := xo_some h0
  obtain ⟨t1, ph2, h0, h⟩ := xb_some h
  refine px_cV2 rfl rfl e1 rfl rfl rfl rfl rfl rfl rfl (r_M_bind h0 :) (fun _ _ q => nomatch q.2) (fun r ph' q => ?_)
  obtain ⟨rfl, q⟩ := q
  cases q
  refine px_ifeq rfl rfl rfl (fun hc => ?_) (fun hc => ?_)
  · replace h := (if_pos hc).symm.trans h
    refine px_forget (n := 0) (lv' := [_, _, _]) rfl ?_
    refine px_forget (n := 1) (lv' := [_, _, _]) rfl ?_
    refine px_forget (n := 2) (lv' := [_, _, _]) rfl ?_
    exact (r_M_isDefining_22 h :)
  · replace h := (if_neg hc).symm.trans h
    refine px_ld rfl rfl rfl rfl rfl ?_
    refine px_ld rfl rfl rfl rfl rfl ?_
    refine px_ld rfl rfl rfl rfl rfl ?_
    obtain ⟨fs, h0, h⟩ := xs_some h
    have e1 := xo_some h0
    obtain ⟨t3, ph4, h0, h⟩ := xb_some h
    refine px_cV2 rfl rfl e1 rfl rfl rfl rfl rfl rfl rfl (r_M_where h0 :) (fun _ _ q => nomatch q.2) (fun r ph' q => ?_)
    obtain ⟨rfl, q⟩ := q
    cases q
    refine px_ifeq rfl rfl rfl (fun hc => ?_) (fun hc => ?_)
    · replace h := (if_pos hc).symm.trans h
      refine px_forget (n := 0) (lv' := [_, _, _]) rfl ?_
      refine px_forget (n := 1) (lv' := [_, _, _]) rfl ?_
      refine px_forget (n := 2) (lv' := [_, _, _]) rfl ?_
      exact (r_M_isDefining_22 h :)
    · replace h := (if_neg hc).symm.trans h
      refine px_ic (k := 1) rfl rfl rfl ?_
      refine px_goto rfl rfl rfl ?_
      refine px_forget (n := 0) (lv' := [_, _, _]) rfl ?_
      refine px_forget (n := 1) (lv' := [_, _, _]) rfl ?_
      refine px_forget (n := 2) (lv' := [_, _, _]) rfl ?_
      exact (r_M_isDefining_23 h :)
def f_M_digits_53 (F : Nat) (ph : px_H) : Option (Unit × px_H) :=
  some ((), ph)
theorem r_M_digits_53 {l : Launch} {g : px_G} {d F : Nat} {ph : px_H} {r : Unit} {ph' : px_H} (h : f_M_digits_53 F ph = some (r, ph')) : PW l g (d + 0) m_M_digits 53 [px_u, px_u, px_u, px_u, px_u] [] ph (px_qV r ph') := by
  unfold f_M_digits_53 at h
  cases h
  exact px_vret rfl rfl rfl ⟨rfl, rfl⟩
def f_M_digits_21 (F : Nat) : Nat → Nat → Int32 → Int32 → Int32 → px_H → Option (Unit × px_H)
  | 0, _, _, _, _, _ => none
  | n + 1, a0, a2, a3, a4, ph =>
    if a3 ≤ 0 then
      f_M_digits_53 F ph
    else
      (xgR ph 12 3 a0).bind fun t1 =>
      (xnzI a3).bind fun _ =>
      (xsI ph 0 t1 a4 ((((nI 48) + ((a2 / a3) - (a2 / a3) / (nI 10) * (nI 10))).toInt8.toInt32).toInt8.toInt32)).bind fun ph2 =>
      f_M_digits_21 F n a0 a2 (a3 / (nI 10)) (a4 + nI 1) ph2
theorem r_M_digits_21 {l : Launch} {g : px_G} {d F : Nat} : ∀ (n : Nat) {a0 : Nat} {a2 : Int32} {a3 : Int32} {a4 : Int32} {ph : px_H} {r : Unit} {ph' : px_H}, f_M_digits_21 F n a0 a2 a3 a4 ph = some (r, ph') → PW l g (d + 0) m_M_digits 21 [.ref a0, px_u, .int a2, .int a3, .int a4] [] ph (px_qV r ph') := by
  intro n
  induction n with
  | zero => intro _ _ _ _ _ _ _ h; cases h
  | succ n ih =>
    intro a0 a2 a3 a4 ph r ph' h
    unfold f_M_digits_21 at h
    refine px_ld rfl rfl rfl rfl rfl ?_
    refine px_ifle rfl rfl rfl (fun hc => ?_) (fun hc => ?_)
    · replace h := (if_pos hc).symm.trans h
      refine px_forget (n := 0) (lv' := [_, _, _, _, _]) rfl ?_
      refine px_forget (n := 2) (lv' := [_, _, _, _, _]) rfl ?_
      refine px_forget (n := 3) (lv' := [_, _, _, _, _]) rfl ?_
      refine px_forget (n := 4) (lv' := [_, _, _, _, _]) rfl ?_
      exact (r_M_digits_53 h :)
    · replace h := (if_neg hc).symm.trans h
      refine px_ld rfl rfl rfl rfl rfl ?_
      obtain ⟨t1, h0, h⟩ := xs_some h
      obtain ⟨fs, e1, e2⟩ := xgR_some h0
      refine px_get rfl e1 e2 rfl ?_
      refine px_ld rfl rfl rfl rfl rfl ?_
      refine px_ic (k := 48) rfl rfl rfl ?_
      refine px_ld rfl rfl rfl rfl rfl ?_
      refine px_ld rfl rfl rfl rfl rfl ?_
      obtain ⟨_, h0, h⟩ := xs_some h
      have hz := xnzI_some h0
      refine px_idiv rfl hz rfl ?_
      refine px_ic (k := 10) rfl rfl rfl ?_
      refine px_irem rfl (by decide) rfl ?_
      refine px_alu rfl rfl rfl ?_
      refine px_alu rfl rfl rfl ?_
      obtain ⟨ph2, h0, h⟩ := xs_some h
      obtain ⟨N, f, e1, e2, e3⟩ := xsI_some h0
      subst e3
      refine px_bast rfl e1 rfl e2 rfl ?_
      refine px_ld rfl rfl rfl rfl rfl ?_
      refine px_ic (k := 10) rfl rfl rfl ?_
      refine px_idiv rfl (by decide) rfl ?_
      refine px_st (lv' := [_, _, _, _, _]) rfl rfl rfl rfl rfl rfl rfl ?_
      refine px_iinc (lv' := [_, _, _, _, _]) rfl rfl rfl rfl rfl rfl ?_
      refine px_goto rfl rfl rfl ?_
      exact (ih h :)
def f_M_digits_18 (F : Nat) (a0 : Nat) (a1 : Int32) (a2 : Int32) (a3 : Int32) (ph : px_H) : Option (Unit × px_H) :=
  f_M_digits_21 F F a0 a2 a3 a1 ph
theorem r_M_digits_18 {l : Launch} {g : px_G} {d F : Nat} {a0 : Nat} {a1 : Int32} {a2 : Int32} {a3 : Int32} {ph : px_H} {r : Unit} {ph' : px_H} (h : f_M_digits_18 F a0 a1 a2 a3 ph = some (r, ph')) : PW l g (d + 0) m_M_digits 18 [.ref a0, .int a1, .int a2, .int a3, px_u] [] ph (px_qV r ph') := by
  unfold f_M_digits_18 at h
  refine px_ld rfl rfl rfl rfl rfl ?_
  refine px_st (lv' := [_, _, _, _, _]) rfl rfl rfl rfl rfl rfl rfl ?_
  refine px_forget (n := 1) (lv' := [_, _, _, _, _]) rfl ?_
  exact (r_M_digits_21 _ h :)
def f_M_digits_2 (F : Nat) : Nat → Nat → Int32 → Int32 → Int32 → px_H → Option (Unit × px_H)
  | 0, _, _, _, _, _ => none
  | n + 1, a0, a1, a2, a3, ph =>
    (xnzI a3).bind fun _ =>
    if (a2 / a3) ≤ (nI 9) then
      f_M_digits_18 F a0 a1 a2 a3 ph
    else
      f_M_digits_2 F n a0 a1 a2 ((nI 10) * a3) ph
theorem r_M_digits_2 {l : Launch} {g : px_G} {d F : Nat} : ∀ (n : Nat) {a0 : Nat} {a1 : Int32} {a2 : Int32} {a3 : Int32} {ph : px_H} {r : Unit} {ph' : px_H}, f_M_digits_2 F n a0 a1 a2 a3 ph = some (r, ph') → PW l g (d + 0) m_M_digits 2 [.ref a0, .int a1, .int a2, .int a3, px_u] [] ph (px_qV r ph') := by
  intro n
  induction n with
  | zero => intro _ _ _ _ _ _ _ h; cases h
  | succ n ih =>
    intro a0 a1 a2 a3 ph r ph' h
    unfold f_M_digits_2 at h
    refine px_ld rfl rfl rfl rfl rfl ?_
    refine px_ld rfl rfl rfl rfl rfl ?_
    obtain ⟨_, h0, h⟩ := xs_some h
    have hz := xnzI_some h0
    refine px_idiv rfl hz rfl ?_
    refine px_ic (k := 9) rfl rfl rfl ?_
    refine px_icle rfl rfl rfl (fun hc => ?_) (fun hc => ?_)
    · replace h := (if_pos hc).symm.trans h
      exact (r_M_digits_18 h :)
    · replace h := (if_neg hc).symm.trans h
      refine px_ic (k := 10) rfl rfl rfl ?_
      refine px_ld rfl rfl rfl rfl rfl ?_
      refine px_alu rfl rfl rfl ?_
      refine px_st (lv' := [_, _, _, _, _]) rfl rfl rfl rfl rfl rfl rfl ?_
      refine px_goto rfl rfl rfl ?_
      exact (ih h :)
def f_M_digits (F : Nat) (a0 : Nat) (a1 : Int32) (a2 : Int32) (ph : px_H) : Option (Unit × px_H) :=
  f_M_digits_2 F F a0 a1 a2 (nI 1) ph
theorem r_M_digits {l : Launch} {g : px_G} {d F : Nat} {a0 : Nat} {a1 : Int32} {a2 : Int32} {ph : px_H} {r : Unit} {ph' : px_H} (h : f_M_digits F a0 a1 a2 ph = some (r, ph')) : PW l g (d + 0) m_M_digits 0 [.ref a0, .int a1, .int a2, px_u, px_u] [] ph (px_qV r ph') := by
  unfold f_M_digits at h
  refine px_ic (k := 1) rfl rfl rfl ?_
  refine px_st (lv' := [_, _, _, _, _]) rfl rfl rfl rfl rfl rfl rfl ?_
  exact (r_M_digits_2 _ h :)
def f_M_ahead_24 (F : Nat) (a0 : Nat) (a1 : Int32) (a2 : Int32) (ph : px_H) : Option (Unit × px_H) :=
  (xo ph 12 a0).bind fun _ =>
  xb (f_M_digits F a0 (a1 + (nI 48)) a2 ph) fun _ ph1 =>
  (xgR ph1 12 3 a0).bind fun t2 =>
  (xsI ph1 0 t2 (a1 + (nI 58)) ((nI 96).toInt8.toInt32)).bind fun ph3 =>
  (xgR ph3 12 3 a0).bind fun t4 =>
  (xsI ph3 0 t4 (a1 + (nI 59)) ((nI 10).toInt8.toInt32)).bind fun ph5 =>
  some ((), ph5)
theorem r_M_ahead_24 {l : Launch} {g : px_G} {d F : Nat} {a0 : Nat} {a1 : Int32} {a2 : Int32} {ph : px_H} {r : Unit} {ph' : px_H} (h : f_M_ahead_24 F a0 a1 a2 ph = some (r, ph')) : PW l g (d + 1) m_M_ahead 24 [.ref a0, .int a1, .int a2, px_u] [] ph (px_qV r ph') := by
  unfold f_M_ahead_24 at h
  refine px_ld rfl rfl rfl rfl rfl ?_
  refine px_ld rfl rfl rfl rfl rfl ?_
  refine px_ic (k := 48) rfl rfl rfl ?_
  refine px_alu rfl rfl rfl ?_
  refine px_ld rfl rfl rfl rfl rfl ?_
  obtain ⟨fs, h0, h⟩ := xs_some h
  have e1 := xo_some h0
  obtain ⟨u0, ph1, h0, h⟩ := xb_some h
  refine px_cV2 rfl rfl e1 rfl rfl rfl rfl rfl rfl rfl (r_M_digits h0 :) (fun _ _ q => nomatch q.2) (fun r ph' q => ?_)
  obtain ⟨rfl, q⟩ := q
  cases q
  refine px_ld rfl rfl rfl rfl rfl ?_
  obtain ⟨t2, h0, h⟩ := xs_some h
  obtain ⟨fs, e1, e2⟩ := xgR_some h0
  refine px_get rfl e1 e2 rfl ?_
  refine px_ld rfl rfl rfl rfl rfl ?_
  refine px_ic (k := 58) rfl rfl rfl ?_
  refine px_alu rfl rfl rfl ?_
  refine px_ic (k := 96) rfl rfl rfl ?_
  obtain ⟨ph3, h0, h⟩ := xs_some h
  obtain ⟨N, f, e1, e2, e3⟩ := xsI_some h0
  subst e3
  refine px_bast rfl e1 rfl e2 rfl ?_
  refine px_ld rfl rfl rfl rfl rfl ?_
  obtain ⟨t4, h0, h⟩ := xs_some h
  obtain ⟨fs, e1, e2⟩ := xgR_some h0
  refine px_get rfl e1 e2 rfl ?_
  refine px_ld rfl rfl rfl rfl rfl ?_
  refine px_ic (k := 59) rfl rfl rfl ?_
  refine px_alu rfl rfl rfl ?_
  refine px_ic (k := 10) rfl rfl rfl ?_
  obtain ⟨ph5, h0, h⟩ := xs_some h
  obtain ⟨N, f, e1, e2, e3⟩ := xsI_some h0
  subst e3
  refine px_bast rfl e1 rfl e2 rfl ?_
  cases h
  exact px_vret rfl rfl rfl ⟨rfl, rfl⟩
def f_M_ahead_2 (F : Nat) : Nat → Nat → Int32 → Int32 → Int32 → px_H → Option (Unit × px_H)
  | 0, _, _, _, _, _ => none
  | n + 1, a0, a1, a2, a3, ph =>
    if (nI 58) ≤ a3 then
      f_M_ahead_24 F a0 a1 a2 ph
    else
      (xgR ph 12 3 a0).bind fun t1 =>
      (xsI ph 0 t1 (a1 + a3) ((nI 32).toInt8.toInt32)).bind fun ph2 =>
      f_M_ahead_2 F n a0 a1 a2 (a3 + nI 1) ph2
theorem r_M_ahead_2 {l : Launch} {g : px_G} {d F : Nat} : ∀ (n : Nat) {a0 : Nat} {a1 : Int32} {a2 : Int32} {a3 : Int32} {ph : px_H} {r : Unit} {ph' : px_H}, f_M_ahead_2 F n a0 a1 a2 a3 ph = some (r, ph') → PW l g (d + 1) m_M_ahead 2 [.ref a0, .int a1, .int a2, .int a3] [] ph (px_qV r ph') := by
  intro n
  induction n with
  | zero => intro _ _ _ _ _ _ _ h; cases h
  | succ n ih =>
    intro a0 a1 a2 a3 ph r ph' h
    unfold f_M_ahead_2 at h
    refine px_ld rfl rfl rfl rfl rfl ?_
    refine px_ic (k := 58) rfl rfl rfl ?_
    refine px_icge rfl rfl rfl (fun hc => ?_) (fun hc => ?_)
    · replace h := (if_pos hc).symm.trans h
      refine px_forget (n := 3) (lv' := [_, _, _, _]) rfl ?_
      exact (r_M_ahead_24 h :)
    · replace h := (if_neg hc).symm.trans h
      refine px_ld rfl rfl rfl rfl rfl ?_
      obtain ⟨t1, h0, h⟩ := xs_some h
      obtain ⟨fs, e1, e2⟩ := xgR_some h0
      refine px_get rfl e1 e2 rfl ?_
      refine px_ld rfl rfl rfl rfl rfl ?_
      refine px_ld rfl rfl rfl rfl rfl ?_
      refine px_alu rfl rfl rfl ?_
      refine px_ic (k := 32) rfl rfl rfl ?_
      obtain ⟨ph2, h0, h⟩ := xs_some h
      obtain ⟨N, f, e1, e2, e3⟩ := xsI_some h0
      subst e3
      refine px_bast rfl e1 rfl e2 rfl ?_
      refine px_iinc (lv' := [_, _, _, _]) rfl rfl rfl rfl rfl rfl ?_
      refine px_goto rfl rfl rfl ?_
      exact (ih h :)
def f_M_ahead (F : Nat) (a0 : Nat) (a1 : Int32) (a2 : Int32) (ph : px_H) : Option (Unit × px_H) :=
  f_M_ahead_2 F F a0 a1 a2 (nI 0) ph
theorem r_M_ahead {l : Launch} {g : px_G} {d F : Nat} {a0 : Nat} {a1 : Int32} {a2 : Int32} {ph : px_H} {r : Unit} {ph' : px_H} (h : f_M_ahead F a0 a1 a2 ph = some (r, ph')) : PW l g (d + 1) m_M_ahead 0 [.ref a0, .int a1, .int a2, px_u] [] ph (px_qV r ph') := by
  unfold f_M_ahead at h
  refine px_ic (k := 0) rfl rfl rfl ?_
  refine px_st (lv' := [_, _, _, _]) rfl rfl rfl rfl rfl rfl rfl ?_
  exact (r_M_ahead_2 _ h :)
def f_M_highFirst_31 (F : Nat) (ph : px_H) : Option (Unit × px_H) :=
  some ((), ph)
theorem r_M_highFirst_31 {l : Launch} {g : px_G} {d F : Nat} {ph : px_H} {r : Unit} {ph' : px_H} (h : f_M_highFirst_31 F ph = some (r, ph')) : PW l g (d + 0) m_M_highFirst 31 [px_u, px_u, px_u, px_u] [] ph (px_qV r ph') := by
  unfold f_M_highFirst_31 at h
  cases h
  exact px_vret rfl rfl rfl ⟨rfl, rfl⟩
def f_M_highFirst_2 (F : Nat) : Nat → Nat → Int32 → Int32 → Int32 → px_H → Option (Unit × px_H)
  | 0, _, _, _, _, _ => none
  | n + 1, a0, a1, a2, a3, ph =>
    if (nI 4) ≤ a3 then
      f_M_highFirst_31 F ph
    else
      (xgR ph 12 3 a0).bind fun t1 =>
      (xsI ph 0 t1 (a1 + a3) (((a2 >>> (((nI 24) - ((nI 8) * a3)) &&& 31)).toInt8.toInt32).toInt8.toInt32)).bind fun ph2 =>
      f_M_highFirst_2 F n a0 a1 a2 (a3 + nI 1) ph2
theorem r_M_highFirst_2 {l : Launch} {g : px_G} {d F : Nat} : ∀ (n : Nat) {a0 : Nat} {a1 : Int32} {a2 : Int32} {a3 : Int32} {ph : px_H} {r : Unit} {ph' : px_H}, f_M_highFirst_2 F n a0 a1 a2 a3 ph = some (r, ph') → PW l g (d + 0) m_M_highFirst 2 [.ref a0, .int a1, .int a2, .int a3] [] ph (px_qV r ph') := by
  intro n
  induction n with
  | zero => intro _ _ _ _ _ _ _ h; cases h
  | succ n ih =>
    intro a0 a1 a2 a3 ph r ph' h
    unfold f_M_highFirst_2 at h
    refine px_ld rfl rfl rfl rfl rfl ?_
    refine px_ic (k := 4) rfl rfl rfl ?_
    refine px_icge rfl rfl rfl (fun hc => ?_) (fun hc => ?_)
    · replace h := (if_pos hc).symm.trans h
      refine px_forget (n := 0) (lv' := [_, _, _, _]) rfl ?_
      refine px_forget (n := 1) (lv' := [_, _, _, _]) rfl ?_
      refine px_forget (n := 2) (lv' := [_, _, _, _]) rfl ?_
      refine px_forget (n := 3) (lv' := [_, _, _, _]) rfl ?_
      exact (r_M_highFirst_31 h :)
    · replace h := (if_neg hc).symm.trans h
      refine px_ld rfl rfl rfl rfl rfl ?_
      obtain ⟨t1, h0, h⟩ := xs_some h
      obtain ⟨fs, e1, e2⟩ := xgR_some h0
      refine px_get rfl e1 e2 rfl ?_
      refine px_ld rfl rfl rfl rfl rfl ?_
      refine px_ld rfl rfl rfl rfl rfl ?_
      refine px_alu rfl rfl rfl ?_
      refine px_ld rfl rfl rfl rfl rfl ?_
      refine px_ic (k := 24) rfl rfl rfl ?_
      refine px_ic (k := 8) rfl rfl rfl ?_
      refine px_ld rfl rfl rfl rfl rfl ?_
      refine px_alu rfl rfl rfl ?_
      refine px_alu rfl rfl rfl ?_
      refine px_alu rfl rfl rfl ?_
      refine px_alu rfl rfl rfl ?_
      obtain ⟨ph2, h0, h⟩ := xs_some h
      obtain ⟨N, f, e1, e2, e3⟩ := xsI_some h0
      subst e3
      refine px_bast rfl e1 rfl e2 rfl ?_
      refine px_iinc (lv' := [_, _, _, _]) rfl rfl rfl rfl rfl rfl ?_
      refine px_goto rfl rfl rfl ?_
      exact (ih h :)
def f_M_highFirst (F : Nat) (a0 : Nat) (a1 : Int32) (a2 : Int32) (ph : px_H) : Option (Unit × px_H) :=
  f_M_highFirst_2 F F a0 a1 a2 (nI 0) ph
theorem r_M_highFirst {l : Launch} {g : px_G} {d F : Nat} {a0 : Nat} {a1 : Int32} {a2 : Int32} {ph : px_H} {r : Unit} {ph' : px_H} (h : f_M_highFirst F a0 a1 a2 ph = some (r, ph')) : PW l g (d + 0) m_M_highFirst 0 [.ref a0, .int a1, .int a2, px_u] [] ph (px_qV r ph') := by
  unfold f_M_highFirst at h
  refine px_ic (k := 0) rfl rfl rfl ?_
  refine px_st (lv' := [_, _, _, _]) rfl rfl rfl rfl rfl rfl rfl ?_
  exact (r_M_highFirst_2 _ h :)
def f_M_pack_531 (F : Nat) (a3 : Int32) (ph : px_H) : Option (Int32 × px_H) :=
  some (a3, ph)
theorem r_M_pack_531 {l : Launch} {g : px_G} {d F : Nat} {a3 : Int32} {ph : px_H} {r : Int32} {ph' : px_H} (h : f_M_pack_531 F a3 ph = some (r, ph')) : PW l g (d + 7) m_M_pack 531 [px_u, px_u, px_u, .int a3, px_u, px_u, px_u, px_u, px_u, px_u, px_u, px_u] [] ph (px_qI r ph') := by
  unfold f_M_pack_531 at h
  refine px_ld rfl rfl rfl rfl rfl ?_
  cases h
  exact px_iret rfl (Or.inl rfl) rfl ⟨rfl, rfl⟩
def f_M_pack_525 (F : Nat) (k272 : Nat → Int32 → Int32 → Int32 → Int32 → Int32 → px_H → Option (Int32 × px_H)) (a0 : Nat) (a3 : Int32) (a5 : Int32) (a6 : Int32) (a7 : Int32) (a8 : Int32) (ph : px_H) : Option (Int32 × px_H) :=
  k272 a0 a3 a5 a6 a7 (a8 + nI 1) ph
theorem r_M_pack_525 {l : Launch} {g : px_G} {d F : Nat} {k272 : Nat → Int32 → Int32 → Int32 → Int32 → Int32 → px_H → Option (Int32 × px_H)} (hk272 : ∀ {a0 : Nat} {a3 : Int32} {a5 : Int32} {a6 : Int32} {a7 : Int32} {a8 : Int32} {ph : px_H} {r : Int32} {ph' : px_H}, k272 a0 a3 a5 a6 a7 a8 ph = some (r, ph') → PW l g (d + 7) m_M_pack 272 [.ref a0, px_u, px_u, .int a3, px_u, .int a5, .int a6, .int a7, .int a8, px_u, px_u, px_u] [] ph (px_qI r ph')) {a0 : Nat} {a3 : Int32} {a5 : Int32} {a6 : Int32} {a7 : Int32} {a8 : Int32} {ph : px_H} {r : Int32} {ph' : px_H} (h : f_M_pack_525 F k272 a0 a3 a5 a6 a7 a8 ph = some (r, ph')) : PW l g (d + 7) m_M_pack 525 [.ref a0, px_u, px_u, .int a3, px_u, .int a5, .int a6, .int a7, .int a8, px_u, px_u, px_u] [] ph (px_qI r ph') := by
  unfold f_M_pack_525 at h
  refine px_iinc (lv' := [_, _, _, _, _, _, _, _, _, _, _, _]) rfl rfl rfl rfl rfl rfl ?_
  refine px_goto rfl (by decide) rfl ?_
  exact (hk272 h :)
def f_M_pack_476 (F : Nat) (k272 : Nat → Int32 → Int32 → Int32 → Int32 → Int32 → px_H → Option (Int32 × px_H)) (a0 : Nat) (a3 : Int32) (a5 : Int32) (a6 : Int32) (a7 : Int32) (a8 : Int32) (ph : px_H) : Option (Int32 × px_H) :=
  (xgR ph 12 129 a0).bind fun t1 =>
  (xaI ph 1 t1 a8).bind fun t2 =>
  (xgR ph 12 129 a0).bind fun t3 =>
  (xaI ph 1 t3 a8).bind fun t4 =>
  (xgR ph 12 129 a0).bind fun t5 =>
  (xaI ph 1 t5 a8).bind fun t6 =>
  if (t6 - t6 / (nI 2) * (nI 2)) = (nI 1) then
    (xgR ph 12 3 a0).bind fun t7 =>
    (xsI ph 0 t7 ((a7 + (((nI 60) + t2) + (t4 - t4 / (nI 2) * (nI 2)))) - (nI 1)) ((nI 10).toInt8.toInt32)).bind fun ph8 =>
    f_M_pack_525 F k272 a0 a3 a5 a6 (a7 + (((nI 60) + t2) + (t4 - t4 / (nI 2) * (nI 2)))) a8 ph8
  else
    f_M_pack_525 F k272 a0 a3 a5 a6 (a7 + (((nI 60) + t2) + (t4 - t4 / (nI 2) * (nI 2)))) a8 ph
theorem r_M_pack_476 {l : Launch} {g : px_G} {d F : Nat} {k272 : Nat → Int32 → Int32 → Int32 → Int32 → Int32 → px_H → Option (Int32 × px_H)} (hk272 : ∀ {a0 : Nat} {a3 : Int32} {a5 : Int32} {a6 : Int32} {a7 : Int32} {a8 : Int32} {ph : px_H} {r : Int32} {ph' : px_H}, k272 a0 a3 a5 a6 a7 a8 ph = some (r, ph') → PW l g (d + 7) m_M_pack 272 [.ref a0, px_u, px_u, .int a3, px_u, .int a5, .int a6, .int a7, .int a8, px_u, px_u, px_u] [] ph (px_qI r ph')) {a0 : Nat} {a3 : Int32} {a5 : Int32} {a6 : Int32} {a7 : Int32} {a8 : Int32} {ph : px_H} {r : Int32} {ph' : px_H} (h : f_M_pack_476 F k272 a0 a3 a5 a6 a7 a8 ph = some (r, ph')) : PW l g (d + 7) m_M_pack 476 [.ref a0, px_u, px_u, .int a3, px_u, .int a5, .int a6, .int a7, .int a8, px_u, px_u, px_u] [] ph (px_qI r ph') := by
  unfold f_M_pack_476 at h
  refine px_ld rfl rfl rfl rfl rfl ?_
  refine px_ic (k := 60) rfl rfl rfl ?_
  refine px_ld rfl rfl rfl rfl rfl ?_
  obtain ⟨t1, h0, h⟩ := xs_some h
  obtain ⟨fs, e1, e2⟩ := xgR_some h0
  refine px_get rfl e1 e2 rfl ?_
  refine px_ld rfl rfl rfl rfl rfl ?_
  obtain ⟨t2, h0, h⟩ := xs_some h
  obtain ⟨N, f, e1, e2, e3⟩ := xaI_some h0
  subst e3
  refine px_iald rfl e1 rfl e2 rfl ?_
  refine px_alu rfl rfl rfl ?_
  refine px_ld rfl rfl rfl rfl rfl ?_
  obtain ⟨t3, h0, h⟩ := xs_some h
  obtain ⟨fs, e1, e2⟩ := xgR_some h0
  refine px_get rfl e1 e2 rfl ?_
  refine px_ld rfl rfl rfl rfl rfl ?_
  obtain ⟨t4, h0, h⟩ := xs_some h
  obtain ⟨N, f, e1, e2, e3⟩ := xaI_some h0
  subst e3
  refine px_iald rfl e1 rfl e2 rfl ?_
  refine px_ic (k := 2) rfl rfl rfl ?_
  refine px_irem rfl (by decide) rfl ?_
  refine px_alu rfl rfl rfl ?_
  refine px_alu rfl rfl rfl ?_
  refine px_st (lv' := [_, _, _, _, _, _, _, _, _, _, _, _]) rfl rfl rfl rfl rfl rfl rfl ?_
  refine px_ld rfl rfl rfl rfl rfl ?_
  obtain ⟨t5, h0, h⟩ := xs_some h
  obtain ⟨fs, e1, e2⟩ := xgR_some h0
  refine px_get rfl e1 e2 rfl ?_
  refine px_ld rfl rfl rfl rfl rfl ?_
  obtain ⟨t6, h0, h⟩ := xs_some h
  obtain ⟨N, f, e1, e2, e3⟩ := xaI_some h0
  subst e3
  refine px_iald rfl e1 rfl e2 rfl ?_
  refine px_ic (k := 2) rfl rfl rfl ?_
  refine px_irem rfl (by decide) rfl ?_
  refine px_ic (k := 1) rfl rfl rfl ?_
  refine px_icne rfl (by decide) rfl (fun hc => ?_) (fun hc => ?_)
  · replace h := (if_neg hc).symm.trans h
    exact (r_M_pack_525 @hk272 h :)
  · replace h := (if_pos hc).symm.trans h
    refine px_ld rfl rfl rfl rfl rfl ?_
    obtain ⟨t7, h0, h⟩ := xs_some h
    obtain ⟨fs, e1, e2⟩ := xgR_some h0
    refine px_get rfl e1 e2 rfl ?_
    refine px_ld rfl rfl rfl rfl rfl ?_
    refine px_ic (k := 1) rfl rfl rfl ?_
    refine px_alu rfl rfl rfl ?_
    refine px_ic (k := 10) rfl rfl rfl ?_
    obtain ⟨ph8, h0, h⟩ := xs_some h
    obtain ⟨N, f, e1, e2, e3⟩ := xsI_some h0
    subst e3
    refine px_bast rfl e1 rfl e2 rfl ?_
    exact (r_M_pack_525 @hk272 h :)
def f_M_pack_435 (F : Nat) (k272 : Nat → Int32 → Int32 → Int32 → Int32 → Int32 → px_H → Option (Int32 × px_H)) : Nat → Nat → Int32 → Int32 → Int32 → Int32 → Int32 → Int32 → Int32 → px_H → Option (Int32 × px_H)
  | 0, _, _, _, _, _, _, _, _, _ => none
  | n + 1, a0, a3, a5, a6, a7, a8, a9, a10, ph =>
    (xgR ph 12 129 a0).bind fun t1 =>
    (xaI ph 1 t1 a8).bind fun t2 =>
    if t2 ≤ a10 then
      f_M_pack_476 F k272 a0 a3 a5 a6 a7 a8 ph
    else
      (xgR ph 12 3 a0).bind fun t3 =>
      (xgR ph 12 6 a0).bind fun t4 =>
      (xaI ph 0 t4 (a9 + a10)).bind fun t5 =>
      (xsI ph 0 t3 ((a7 + (nI 60)) + a10) (t5.toInt8.toInt32)).bind fun ph6 =>
      f_M_pack_435 F k272 n a0 a3 a5 a6 a7 a8 a9 (a10 + nI 1) ph6
theorem r_M_pack_435 {l : Launch} {g : px_G} {d F : Nat} {k272 : Nat → Int32 → Int32 → Int32 → Int32 → Int32 → px_H → Option (Int32 × px_H)} (hk272 : ∀ {a0 : Nat} {a3 : Int32} {a5 : Int32} {a6 : Int32} {a7 : Int32} {a8 : Int32} {ph : px_H} {r : Int32} {ph' : px_H}, k272 a0 a3 a5 a6 a7 a8 ph = some (r, ph') → PW l g (d + 7) m_M_pack 272 [.ref a0, px_u, px_u, .int a3, px_u, .int a5, .int a6, .int a7, .int a8, px_u, px_u, px_u] [] ph (px_qI r ph')) : ∀ (n : Nat) {a0 : Nat} {a3 : Int32} {a5 : Int32} {a6 : Int32} {a7 : Int32} {a8 : Int32} {a9 : Int32} {a10 : Int32} {ph : px_H} {r : Int32} {ph' : px_H}, f_M_pack_435 F k272 n a0 a3 a5 a6 a7 a8 a9 a10 ph = some (r, ph') → PW l g (d + 7) m_M_pack 435 [.ref a0, px_u, px_u, .int a3, px_u, .int a5, .int a6, .int a7, .int a8, .int a9, .int a10, px_u] [] ph (px_qI r ph') := by
  intro n
  induction n with
  | zero => intro _ _ _ _ _ _ _ _ _ _ _ h; cases h
  | succ n ih =>
    intro a0 a3 a5 a6 a7 a8 a9 a10 ph r ph' h
    unfold f_M_pack_435 at h
    refine px_ld rfl rfl rfl rfl rfl ?_
    refine px_ld rfl rfl rfl rfl rfl ?_
    obtain ⟨t1, h0, h⟩ := xs_some h
    obtain ⟨fs, e1, e2⟩ := xgR_some h0
    refine px_get rfl e1 e2 rfl ?_
    refine px_ld rfl rfl rfl rfl rfl ?_
    obtain ⟨t2, h0, h⟩ := xs_some h
    obtain ⟨N, f, e1, e2, e3⟩ := xaI_some h0
    subst e3
    refine px_iald rfl e1 rfl e2 rfl ?_
    refine px_icge rfl (by decide) rfl (fun hc => ?_) (fun hc => ?_)
    · replace h := (if_pos hc).symm.trans h
      refine px_forget (n := 9) (lv' := [_, _, _, _, _, _, _, _, _, _, _, _]) rfl ?_
      refine px_forget (n := 10) (lv' := [_, _, _, _, _, _, _, _, _, _, _, _]) rfl ?_
      exact (r_M_pack_476 @hk272 h :)
    · replace h := (if_neg hc).symm.trans h
      refine px_ld rfl rfl rfl rfl rfl ?_
      obtain ⟨t3, h0, h⟩ := xs_some h
      obtain ⟨fs, e1, e2⟩ := xgR_some h0
      refine px_get rfl e1 e2 rfl ?_
      refine px_ld rfl rfl rfl rfl rfl ?_
      refine px_ic (k := 60) rfl rfl rfl ?_
      refine px_alu rfl rfl rfl ?_
      refine px_ld rfl rfl rfl rfl rfl ?_
      refine px_alu rfl rfl rfl ?_
      refine px_ld rfl rfl rfl rfl rfl ?_
      obtain ⟨t4, h0, h⟩ := xs_some h
      obtain ⟨fs, e1, e2⟩ := xgR_some h0
      refine px_get rfl e1 e2 rfl ?_
      refine px_ld rfl rfl rfl rfl rfl ?_
      refine px_ld rfl rfl rfl rfl rfl ?_
      refine px_alu rfl rfl rfl ?_
      obtain ⟨t5, h0, h⟩ := xs_some h
      obtain ⟨N, f, e1, e2, e3⟩ := xaI_some h0
      subst e3
      refine px_bald rfl e1 rfl e2 rfl ?_
      obtain ⟨ph6, h0, h⟩ := xs_some h
      obtain ⟨N, f, e1, e2, e3⟩ := xsI_some h0
      subst e3
      refine px_bast rfl e1 rfl e2 rfl ?_
      refine px_iinc (lv' := [_, _, _, _, _, _, _, _, _, _, _, _]) rfl rfl rfl rfl rfl rfl ?_
      refine px_goto rfl (by decide) rfl ?_
      exact (ih h :)
def f_M_pack_384 (F : Nat) (k272 : Nat → Int32 → Int32 → Int32 → Int32 → Int32 → px_H → Option (Int32 × px_H)) (a0 : Nat) (a3 : Int32) (a5 : Int32) (a6 : Int32) (a7 : Int32) (a8 : Int32) (a9 : Int32) (ph : px_H) : Option (Int32 × px_H) :=
  (xgR ph 12 129 a0).bind fun t1 =>
  (xaI ph 1 t1 a8).bind fun t2 =>
  (xo ph 12 a0).bind fun _ =>
  xb (f_M_ahead F a0 a7 t2 ph) fun _ ph3 =>
  (xgR ph3 12 3 a0).bind fun t4 =>
  (xsI ph3 0 t4 a7 ((nI 111).toInt8.toInt32)).bind fun ph5 =>
  (xgR ph5 12 3 a0).bind fun t6 =>
  (xsI ph5 0 t6 (a7 + (nI 1)) ((((nI 48) + a8).toInt8.toInt32).toInt8.toInt32)).bind fun ph7 =>
  (xgR ph7 12 3 a0).bind fun t8 =>
  (xsI ph7 0 t8 (a7 + (nI 2)) ((nI 47).toInt8.toInt32)).bind fun ph9 =>
  f_M_pack_435 F k272 F a0 a3 a5 a6 a7 a8 a9 (nI 0) ph9
theorem r_M_pack_384 {l : Launch} {g : px_G} {d F : Nat} {k272 : Nat → Int32 → Int32 → Int32 → Int32 → Int32 → px_H → Option (Int32 × px_H)} (hk272 : ∀ {a0 : Nat} {a3 : Int32} {a5 : Int32} {a6 : Int32} {a7 : Int32} {a8 : Int32} {ph : px_H} {r : Int32} {ph' : px_H}, k272 a0 a3 a5 a6 a7 a8 ph = some (r, ph') → PW l g (d + 7) m_M_pack 272 [.ref a0, px_u, px_u, .int a3, px_u, .int a5, .int a6, .int a7, .int a8, px_u, px_u, px_u] [] ph (px_qI r ph')) {a0 : Nat} {a3 : Int32} {a5 : Int32} {a6 : Int32} {a7 : Int32} {a8 : Int32} {a9 : Int32} {ph : px_H} {r : Int32} {ph' : px_H} (h : f_M_pack_384 F k272 a0 a3 a5 a6 a7 a8 a9 ph = some (r, ph')) : PW l g (d + 7) m_M_pack 384 [.ref a0, px_u, px_u, .int a3, px_u, .int a5, .int a6, .int a7, .int a8, .int a9, px_u, px_u] [] ph (px_qI r ph') := by
  unfold f_M_pack_384 at h
  refine px_ld rfl rfl rfl rfl rfl ?_
  refine px_ld rfl rfl rfl rfl rfl ?_
  refine px_ld rfl rfl rfl rfl rfl ?_
  obtain ⟨t1, h0, h⟩ := xs_some h
  obtain ⟨fs, e1, e2⟩ := xgR_some h0
  refine px_get rfl e1 e2 rfl ?_
  refine px_ld rfl rfl rfl rfl rfl ?_
  obtain ⟨t2, h0, h⟩ := xs_some h
  obtain ⟨N, f, e1, e2, e3⟩ := xaI_some h0
  subst e3
  refine px_iald rfl e1 rfl e2 rfl ?_
  obtain ⟨fs, h0, h⟩ := xs_some h
  have e1 := xo_some h0
  obtain ⟨u0, ph3, h0, h⟩ := xb_some h
  refine px_cV2 rfl rfl e1 rfl rfl rfl rfl rfl rfl rfl (r_M_ahead h0 :) (fun _ _ q => nomatch q.2) (fun r ph' q => ?_)
  obtain ⟨rfl, q⟩ := q
  cases q
  refine px_ld rfl rfl rfl rfl rfl ?_
  obtain ⟨t4, h0, h⟩ := xs_some h
  obtain ⟨fs, e1, e2⟩ := xgR_some h0
  refine px_get rfl e1 e2 rfl ?_
  refine px_ld rfl rfl rfl rfl rfl ?_
  refine px_ic (k := 111) rfl rfl rfl ?_
  obtain ⟨ph5, h0, h⟩ := xs_some h
  obtain ⟨N, f, e1, e2, e3⟩ := xsI_some h0
  subst e3
  refine px_bast rfl e1 rfl e2 rfl ?_
  refine px_ld rfl rfl rfl rfl rfl ?_
  obtain ⟨t6, h0, h⟩ := xs_some h
  obtain ⟨fs, e1, e2⟩ := xgR_some h0
  refine px_get rfl e1 e2 rfl ?_
  refine px_ld rfl rfl rfl rfl rfl ?_
  refine px_ic (k := 1) rfl rfl rfl ?_
  refine px_alu rfl rfl rfl ?_
  refine px_ic (k := 48) rfl rfl rfl ?_
  refine px_ld rfl rfl rfl rfl rfl ?_
  refine px_alu rfl rfl rfl ?_
  refine px_alu rfl rfl rfl ?_
  obtain ⟨ph7, h0, h⟩ := xs_some h
  obtain ⟨N, f, e1, e2, e3⟩ := xsI_some h0
  subst e3
  refine px_bast rfl e1 rfl e2 rfl ?_
  refine px_ld rfl rfl rfl rfl rfl ?_
  obtain ⟨t8, h0, h⟩ := xs_some h
  obtain ⟨fs, e1, e2⟩ := xgR_some h0
  refine px_get rfl e1 e2 rfl ?_
  refine px_ld rfl rfl rfl rfl rfl ?_
  refine px_ic (k := 2) rfl rfl rfl ?_
  refine px_alu rfl rfl rfl ?_
  refine px_ic (k := 47) rfl rfl rfl ?_
  obtain ⟨ph9, h0, h⟩ := xs_some h
  obtain ⟨N, f, e1, e2, e3⟩ := xsI_some h0
  subst e3
  refine px_bast rfl e1 rfl e2 rfl ?_
  refine px_ic (k := 0) rfl rfl rfl ?_
  refine px_st (lv' := [_, _, _, _, _, _, _, _, _, _, _, _]) rfl rfl rfl rfl rfl rfl rfl ?_
  exact (r_M_pack_435 @hk272 _ h :)
def f_M_pack_378 (F : Nat) (k272 : Nat → Int32 → Int32 → Int32 → Int32 → Int32 → px_H → Option (Int32 × px_H)) (k293 : Nat → Int32 → Int32 → Int32 → Int32 → Int32 → Int32 → Int32 → px_H → Option (Int32 × px_H)) (a0 : Nat) (a3 : Int32) (a5 : Int32) (a6 : Int32) (a7 : Int32) (a8 : Int32) (a9 : Int32) (a10 : Int32) (ph : px_H) : Option (Int32 × px_H) :=
  k293 a0 a3 a5 a6 a7 a8 a9 (a10 + nI 1) ph
theorem r_M_pack_378 {l : Launch} {g : px_G} {d F : Nat} {k272 : Nat → Int32 → Int32 → Int32 → Int32 → Int32 → px_H → Option (Int32 × px_H)} (hk272 : ∀ {a0 : Nat} {a3 : Int32} {a5 : Int32} {a6 : Int32} {a7 : Int32} {a8 : Int32} {ph : px_H} {r : Int32} {ph' : px_H}, k272 a0 a3 a5 a6 a7 a8 ph = some (r, ph') → PW l g (d + 7) m_M_pack 272 [.ref a0, px_u, px_u, .int a3, px_u, .int a5, .int a6, .int a7, .int a8, px_u, px_u, px_u] [] ph (px_qI r ph')) {k293 : Nat → Int32 → Int32 → Int32 → Int32 → Int32 → Int32 → Int32 → px_H → Option (Int32 × px_H)} (hk293 : ∀ {a0 : Nat} {a3 : Int32} {a5 : Int32} {a6 : Int32} {a7 : Int32} {a8 : Int32} {a9 : Int32} {a10 : Int32} {ph : px_H} {r : Int32} {ph' : px_H}, k293 a0 a3 a5 a6 a7 a8 a9 a10 ph = some (r, ph') → PW l g (d + 7) m_M_pack 293 [.ref a0, px_u, px_u, .int a3, px_u, .int a5, .int a6, .int a7, .int a8, .int a9, .int a10, px_u] [] ph (px_qI r ph')) {a0 : Nat} {a3 : Int32} {a5 : Int32} {a6 : Int32} {a7 : Int32} {a8 : Int32} {a9 : Int32} {a10 : Int32} {ph : px_H} {r : Int32} {ph' : px_H} (h : f_M_pack_378 F k272 k293 a0 a3 a5 a6 a7 a8 a9 a10 ph = some (r, ph')) : PW l g (d + 7) m_M_pack 378 [.ref a0, px_u, px_u, .int a3, px_u, .int a5, .int a6, .int a7, .int a8, .int a9, .int a10, px_u] [] ph (px_qI r ph') := by
  unfold f_M_pack_378 at h
  refine px_iinc (lv' := [_, _, _, _, _, _, _, _, _, _, _, _]) rfl rfl rfl rfl rfl rfl ?_
  refine px_goto rfl (by decide) rfl ?_
  exact (hk293 h :)
def f_M_pack_375 (F : Nat) (k272 : Nat → Int32 → Int32 → Int32 → Int32 → Int32 → px_H → Option (Int32 × px_H)) (k293 : Nat → Int32 → Int32 → Int32 → Int32 → Int32 → Int32 → Int32 → px_H → Option (Int32 × px_H)) (a0 : Nat) (a3 : Int32) (a5 : Int32) (a6 : Int32) (a7 : Int32) (a8 : Int32) (a9 : Int32) (a10 : Int32) (ph : px_H) : Option (Int32 × px_H) :=
  f_M_pack_378 F k272 k293 a0 a3 a5 (a6 + nI 1) a7 a8 a9 a10 ph
theorem r_M_pack_375 {l : Launch} {g : px_G} {d F : Nat} {k272 : Nat → Int32 → Int32 → Int32 → Int32 → Int32 → px_H → Option (Int32 × px_H)} (hk272 : ∀ {a0 : Nat} {a3 : Int32} {a5 : Int32} {a6 : Int32} {a7 : Int32} {a8 : Int32} {ph : px_H} {r : Int32} {ph' : px_H}, k272 a0 a3 a5 a6 a7 a8 ph = some (r, ph') → PW l g (d + 7) m_M_pack 272 [.ref a0, px_u, px_u, .int a3, px_u, .int a5, .int a6, .int a7, .int a8, px_u, px_u, px_u] [] ph (px_qI r ph')) {k293 : Nat → Int32 → Int32 → Int32 → Int32 → Int32 → Int32 → Int32 → px_H → Option (Int32 × px_H)} (hk293 : ∀ {a0 : Nat} {a3 : Int32} {a5 : Int32} {a6 : Int32} {a7 : Int32} {a8 : Int32} {a9 : Int32} {a10 : Int32} {ph : px_H} {r : Int32} {ph' : px_H}, k293 a0 a3 a5 a6 a7 a8 a9 a10 ph = some (r, ph') → PW l g (d + 7) m_M_pack 293 [.ref a0, px_u, px_u, .int a3, px_u, .int a5, .int a6, .int a7, .int a8, .int a9, .int a10, px_u] [] ph (px_qI r ph')) {a0 : Nat} {a3 : Int32} {a5 : Int32} {a6 : Int32} {a7 : Int32} {a8 : Int32} {a9 : Int32} {a10 : Int32} {ph : px_H} {r : Int32} {ph' : px_H} (h : f_M_pack_375 F k272 k293 a0 a3 a5 a6 a7 a8 a9 a10 ph = some (r, ph')) : PW l g (d + 7) m_M_pack 375 [.ref a0, px_u, px_u, .int a3, px_u, .int a5, .int a6, .int a7, .int a8, .int a9, .int a10, px_u] [] ph (px_qI r ph') := by
  unfold f_M_pack_375 at h
  refine px_iinc (lv' := [_, _, _, _, _, _, _, _, _, _, _, _]) rfl rfl rfl rfl rfl rfl ?_
  exact (r_M_pack_378 @hk272 @hk293 h :)
def f_M_pack_339 (F : Nat) (k272 : Nat → Int32 → Int32 → Int32 → Int32 → Int32 → px_H → Option (Int32 × px_H)) (k293 : Nat → Int32 → Int32 → Int32 → Int32 → Int32 → Int32 → Int32 → px_H → Option (Int32 × px_H)) : Nat → Nat → Int32 → Int32 → Int32 → Int32 → Int32 → Int32 → Int32 → Int32 → px_H → Option (Int32 × px_H)
  | 0, _, _, _, _, _, _, _, _, _, _ => none
  | n + 1, a0, a3, a5, a6, a7, a8, a9, a10, a11, ph =>
    (xo ph 12 a0).bind fun _ =>
    xb (f_M_nameEnd F a0 a9 a10 ph) fun t1 ph2 =>
    if t1 ≤ a11 then
      f_M_pack_375 F k272 k293 a0 a3 a5 a6 a7 a8 a9 a10 ph2
    else
      (xgR ph2 12 3 a0).bind fun t3 =>
      (xgR ph2 12 6 a0).bind fun t4 =>
      (xaI ph2 0 t4 a11).bind fun t5 =>
      (xsI ph2 0 t3 a6 (t5.toInt8.toInt32)).bind fun ph6 =>
      f_M_pack_339 F k272 k293 n a0 a3 a5 (a6 + nI 1) a7 a8 a9 a10 (a11 + nI 1) ph6
theorem r_M_pack_339 {l : Launch} {g : px_G} {d F : Nat} {k272 : Nat → Int32 → Int32 → Int32 → Int32 → Int32 → px_H → Option (Int32 × px_H)} (hk272 : ∀ {a0 : Nat} {a3 : Int32} {a5 : Int32} {a6 : Int32} {a7 : Int32} {a8 : Int32} {ph : px_H} {r : Int32} {ph' : px_H}, k272 a0 a3 a5 a6 a7 a8 ph = some (r, ph') → PW l g (d + 7) m_M_pack 272 [.ref a0, px_u, px_u, .int a3, px_u, .int a5, .int a6, .int a7, .int a8, px_u, px_u, px_u] [] ph (px_qI r ph')) {k293 : Nat → Int32 → Int32 → Int32 → Int32 → Int32 → Int32 → Int32 → px_H → Option (Int32 × px_H)} (hk293 : ∀ {a0 : Nat} {a3 : Int32} {a5 : Int32} {a6 : Int32} {a7 : Int32} {a8 : Int32} {a9 : Int32} {a10 : Int32} {ph : px_H} {r : Int32} {ph' : px_H}, k293 a0 a3 a5 a6 a7 a8 a9 a10 ph = some (r, ph') → PW l g (d + 7) m_M_pack 293 [.ref a0, px_u, px_u, .int a3, px_u, .int a5, .int a6, .int a7, .int a8, .int a9, .int a10, px_u] [] ph (px_qI r ph')) : ∀ (n : Nat) {a0 : Nat} {a3 : Int32} {a5 : Int32} {a6 : Int32} {a7 : Int32} {a8 : Int32} {a9 : Int32} {a10 : Int32} {a11 : Int32} {ph : px_H} {r : Int32} {ph' : px_H}, f_M_pack_339 F k272 k293 n a0 a3 a5 a6 a7 a8 a9 a10 a11 ph = some (r, ph') → PW l g (d + 7) m_M_pack 339 [.ref a0, px_u, px_u, .int a3, px_u, .int a5, .int a6, .int a7, .int a8, .int a9, .int a10, .int a11] [] ph (px_qI r ph') := by
  intro n
  induction n with
  | zero => intro _ _ _ _ _ _ _ _ _ _ _ _ h; cases h
  | succ n ih =>
    intro a0 a3 a5 a6 a7 a8 a9 a10 a11 ph r ph' h
    unfold f_M_pack_339 at h
    refine px_ld rfl rfl rfl rfl rfl ?_
    refine px_ld rfl rfl rfl rfl rfl ?_
    refine px_ld rfl rfl rfl rfl rfl ?_
    refine px_ld rfl rfl rfl rfl rfl ?_
    obtain ⟨fs, h0, h⟩ := xs_some h
    have e1 := xo_some h0
    obtain ⟨t1, ph2, h0, h⟩ := xb_some h
    refine px_cV2 rfl rfl e1 rfl rfl rfl rfl rfl rfl rfl (r_M_nameEnd h0 :) (fun _ _ q => nomatch q.2) (fun r ph' q => ?_)
    obtain ⟨rfl, q⟩ := q
    cases q
    refine px_icge rfl (by decide) rfl (fun hc => ?_) (fun hc => ?_)
    · replace h := (if_pos hc).symm.trans h
      refine px_forget (n := 11) (lv' := [_, _, _, _, _, _, _, _, _, _, _, _]) rfl ?_
      exact (r_M_pack_375 @hk272 @hk293 h :)
    · replace h := (if_neg hc).symm.trans h
      refine px_ld rfl rfl rfl rfl rfl ?_
      obtain ⟨t3, h0, h⟩ := xs_some h
      obtain ⟨fs, e1, e2⟩ := xgR_some h0
      refine px_get rfl e1 e2 rfl ?_
      refine px_ld rfl rfl rfl rfl rfl ?_
      refine px_ld rfl rfl rfl rfl rfl ?_
      obtain ⟨t4, h0, h⟩ := xs_some h
      obtain ⟨fs, e1, e2⟩ := xgR_some h0
      refine px_get rfl e1 e2 rfl ?_
      refine px_ld rfl rfl rfl rfl rfl ?_
      obtain ⟨t5, h0, h⟩ := xs_some h
      obtain ⟨N, f, e1, e2, e3⟩ := xaI_some h0
      subst e3
      refine px_bald rfl e1 rfl e2 rfl ?_
      obtain ⟨ph6, h0, h⟩ := xs_some h
      obtain ⟨N, f, e1, e2, e3⟩ := xsI_some h0
      subst e3
      refine px_bast rfl e1 rfl e2 rfl ?_
      refine px_iinc (lv' := [_, _, _, _, _, _, _, _, _, _, _, _]) rfl rfl rfl rfl rfl rfl ?_
      refine px_iinc (lv' := [_, _, _, _, _, _, _, _, _, _, _, _]) rfl rfl rfl rfl rfl rfl ?_
      refine px_goto rfl (by decide) rfl ?_
      exact (ih h :)
def f_M_pack_293 (F : Nat) (k272 : Nat → Int32 → Int32 → Int32 → Int32 → Int32 → px_H → Option (Int32 × px_H)) : Nat → Nat → Int32 → Int32 → Int32 → Int32 → Int32 → Int32 → Int32 → px_H → Option (Int32 × px_H)
  | 0, _, _, _, _, _, _, _, _, _ => none
  | n + 1, a0, a3, a5, a6, a7, a8, a9, a10, ph =>
    (xo ph 12 a0).bind fun _ =>
    xb (f_M_symbolMany F a0 a9 ph) fun t1 ph2 =>
    if t1 ≤ a10 then
      f_M_pack_384 F k272 a0 a3 a5 a6 a7 a8 a9 ph2
    else
      (xo ph2 12 a0).bind fun _ =>
      xb (f_M_isDefining F a0 a9 a10 ph2) fun t3 ph4 =>
      if t3 = 0 then
        f_M_pack_378 F k272 (f_M_pack_293 F k272 n) a0 a3 a5 a6 a7 a8 a9 a10 ph4
      else
        (xo ph4 12 a0).bind fun _ =>
        xb (f_M_highFirst F a0 a5 a7 ph4) fun _ ph5 =>
        (xo ph5 12 a0).bind fun _ =>
        xb (f_M_nameAt F a0 a9 a10 ph5) fun t6 ph7 =>
        f_M_pack_339 F k272 (f_M_pack_293 F k272 n) F a0 a3 (a5 + nI 4) a6 a7 a8 a9 a10 t6 ph7
theorem r_M_pack_293 {l : Launch} {g : px_G} {d F : Nat} {k272 : Nat → Int32 → Int32 → Int32 → Int32 → Int32 → px_H → Option (Int32 × px_H)} (hk272 : ∀ {a0 : Nat} {a3 : Int32} {a5 : Int32} {a6 : Int32} {a7 : Int32} {a8 : Int32} {ph : px_H} {r : Int32} {ph' : px_H}, k272 a0 a3 a5 a6 a7 a8 ph = some (r, ph') → PW l g (d + 7) m_M_pack 272 [.ref a0, px_u, px_u, .int a3, px_u, .int a5, .int a6, .int a7, .int a8, px_u, px_u, px_u] [] ph (px_qI r ph')) : ∀ (n : Nat) {a0 : Nat} {a3 : Int32} {a5 : Int32} {a6 : Int32} {a7 : Int32} {a8 : Int32} {a9 : Int32} {a10 : Int32} {ph : px_H} {r : Int32} {ph' : px_H}, f_M_pack_293 F k272 n a0 a3 a5 a6 a7 a8 a9 a10 ph = some (r, ph') → PW l g (d + 7) m_M_pack 293 [.ref a0, px_u, px_u, .int a3, px_u, .int a5, .int a6, .int a7, .int a8, .int a9, .int a10, px_u] [] ph (px_qI r ph') := by
  intro n
  induction n with
  | zero => intro _ _ _ _ _ _ _ _ _ _ _ h; cases h
  | succ n ih =>
    intro a0 a3 a5 a6 a7 a8 a9 a10 ph r ph' h
    unfold f_M_pack_293 at h
    refine px_ld rfl rfl rfl rfl rfl ?_
    refine px_ld rfl rfl rfl rfl rfl ?_
    refine px_ld rfl rfl rfl rfl rfl ?_
    obtain ⟨fs, h0, h⟩ := xs_some h
    have e1 := xo_some h0
    obtain ⟨t1, ph2, h0, h⟩ := xb_some h
    refine px_cV1 rfl rfl e1 rfl rfl rfl rfl rfl rfl rfl (r_M_symbolMany h0 :) (fun _ _ q => nomatch q.2) (fun r ph' q => ?_)
    obtain ⟨rfl, q⟩ := q
    cases q
    refine px_icge rfl (by decide) rfl (fun hc => ?_) (fun hc => ?_)
    · replace h := (if_pos hc).symm.trans h
      refine px_forget (n := 10) (lv' := [_, _, _, _, _, _, _, _, _, _, _, _]) rfl ?_
      exact (r_M_pack_384 @hk272 h :)
    · replace h := (if_neg hc).symm.trans h
      refine px_ld rfl rfl rfl rfl rfl ?_
      refine px_ld rfl rfl rfl rfl rfl ?_
      refine px_ld rfl rfl rfl rfl rfl ?_
      obtain ⟨fs, h0, h⟩ := xs_some h
      have e1 := xo_some h0
      obtain ⟨t3, ph4, h0, h⟩ := xb_some h
      refine px_cV2 rfl rfl e1 rfl rfl rfl rfl rfl rfl rfl (r_M_isDefining h0 :) (fun _ _ q => nomatch q.2) (fun r ph' q => ?_)
      obtain ⟨rfl, q⟩ := q
      cases q
      refine px_ifne rfl (by decide) rfl (fun hc => ?_) (fun hc => ?_)
      · replace h := (if_neg hc).symm.trans h
        refine px_ld rfl rfl rfl rfl rfl ?_
        refine px_ld rfl rfl rfl rfl rfl ?_
        refine px_ld rfl rfl rfl rfl rfl ?_
        obtain ⟨fs, h0, h⟩ := xs_some h
        have e1 := xo_some h0
        obtain ⟨u0, ph5, h0, h⟩ := xb_some h
        refine px_cV2 rfl rfl e1 rfl rfl rfl rfl rfl rfl rfl (r_M_highFirst h0 :) (fun _ _ q => nomatch q.2) (fun r ph' q => ?_)
        obtain ⟨rfl, q⟩ := q
        cases q
        refine px_iinc (lv' := [_, _, _, _, _, _, _, _, _, _, _, _]) rfl rfl rfl rfl rfl rfl ?_
        refine px_ld rfl rfl rfl rfl rfl ?_
        refine px_ld rfl rfl rfl rfl rfl ?_
        refine px_ld rfl rfl rfl rfl rfl ?_
        obtain ⟨fs, h0, h⟩ := xs_some h
        have e1 := xo_some h0
        obtain ⟨t6, ph7, h0, h⟩ := xb_some h
        refine px_cV2 rfl rfl e1 rfl rfl rfl rfl rfl rfl rfl (r_M_nameAt h0 :) (fun _ _ q => nomatch q.2) (fun r ph' q => ?_)
        obtain ⟨rfl, q⟩ := q
        cases q
        refine px_st (lv' := [_, _, _, _, _, _, _, _, _, _, _, _]) rfl rfl rfl rfl rfl rfl rfl ?_
        exact (r_M_pack_339 @hk272 @ih _ h :)
      · replace h := (if_pos hc).symm.trans h
        refine px_goto rfl (by decide) rfl ?_
        exact (r_M_pack_378 @hk272 @ih h :)
def f_M_pack_272 (F : Nat) : Nat → Nat → Int32 → Int32 → Int32 → Int32 → Int32 → px_H → Option (Int32 × px_H)
  | 0, _, _, _, _, _, _, _ => none
  | n + 1, a0, a3, a5, a6, a7, a8, ph =>
    (xgI ph 12 127 a0).bind fun t1 =>
    if t1 ≤ a8 then
      f_M_pack_531 F a3 ph
    else
      (xgR ph 12 128 a0).bind fun t2 =>
      (xaI ph 1 t2 a8).bind fun t3 =>
      f_M_pack_293 F (f_M_pack_272 F n) F a0 a3 a5 a6 a7 a8 t3 (nI 1) ph
theorem r_M_pack_272 {l : Launch} {g : px_G} {d F : Nat} : ∀ (n : Nat) {a0 : Nat} {a3 : Int32} {a5 : Int32} {a6 : Int32} {a7 : Int32} {a8 : Int32} {ph : px_H} {r : Int32} {ph' : px_H}, f_M_pack_272 F n a0 a3 a5 a6 a7 a8 ph = some (r, ph') → PW l g (d + 7) m_M_pack 272 [.ref a0, px_u, px_u, .int a3, px_u, .int a5, .int a6, .int a7, .int a8, px_u, px_u, px_u] [] ph (px_qI r ph') := by
  intro n
  induction n with
  | zero => intro _ _ _ _ _ _ _ _ _ h; cases h
  | succ n ih =>
    intro a0 a3 a5 a6 a7 a8 ph r ph' h
    unfold f_M_pack_272 at h
    refine px_ld rfl rfl rfl rfl rfl ?_
    refine px_ld rfl rfl rfl rfl rfl ?_
    obtain ⟨t1, h0, h⟩ := xs_some h
    obtain ⟨fs, e1, e2⟩ := xgI_some h0
    refine px_get rfl e1 e2 rfl ?_
    refine px_icge rfl (by decide) rfl (fun hc => ?_) (fun hc => ?_)
    · replace h := (if_pos hc).symm.trans h
      refine px_forget (n := 0) (lv' := [_, _, _, _, _, _, _, _, _, _, _, _]) rfl ?_
      refine px_forget (n := 5) (lv' := [_, _, _, _, _, _, _, _, _, _, _, _]) rfl ?_
      refine px_forget (n := 6) (lv' := [_, _, _, _, _, _, _, _, _, _, _, _]) rfl ?_
      refine px_forget (n := 7) (lv' := [_, _, _, _, _, _, _, _, _, _, _, _]) rfl ?_
      refine px_forget (n := 8) (lv' := [_, _, _, _, _, _, _, _, _, _, _, _]) rfl ?_
      exact (r_M_pack_531 h :)
    · replace h := (if_neg hc).symm.trans h
      refine px_ld rfl rfl rfl rfl rfl ?_
      obtain ⟨t2, h0, h⟩ := xs_some h
      obtain ⟨fs, e1, e2⟩ := xgR_some h0
      refine px_get rfl e1 e2 rfl ?_
      refine px_ld rfl rfl rfl rfl rfl ?_
      obtain ⟨t3, h0, h⟩ := xs_some h
      obtain ⟨N, f, e1, e2, e3⟩ := xaI_some h0
      subst e3
      refine px_iald rfl e1 rfl e2 rfl ?_
      refine px_st (lv' := [_, _, _, _, _, _, _, _, _, _, _, _]) rfl rfl rfl rfl rfl rfl rfl ?_
      refine px_ic (k := 1) rfl rfl rfl ?_
      refine px_st (lv' := [_, _, _, _, _, _, _, _, _, _, _, _]) rfl rfl rfl rfl rfl rfl rfl ?_
      exact (r_M_pack_293 @ih _ h :)
def f_M_pack_269 (F : Nat) (a0 : Nat) (a3 : Int32) (a5 : Int32) (a6 : Int32) (a7 : Int32) (ph : px_H) : Option (Int32 × px_H) :=
  f_M_pack_272 F F a0 a3 a5 a6 a7 (nI 0) ph
theorem r_M_pack_269 {l : Launch} {g : px_G} {d F : Nat} {a0 : Nat} {a3 : Int32} {a5 : Int32} {a6 : Int32} {a7 : Int32} {ph : px_H} {r : Int32} {ph' : px_H} (h : f_M_pack_269 F a0 a3 a5 a6 a7 ph = some (r, ph')) : PW l g (d + 7) m_M_pack 269 [.ref a0, px_u, px_u, .int a3, px_u, .int a5, .int a6, .int a7, px_u, px_u, px_u, px_u] [] ph (px_qI r ph') := by
  unfold f_M_pack_269 at h
  refine px_ic (k := 0) rfl rfl rfl ?_
  refine px_st (lv' := [_, _, _, _, _, _, _, _, _, _, _, _]) rfl rfl rfl rfl rfl rfl rfl ?_
  exact (r_M_pack_272 _ h :)
def f_M_pack_187 (F : Nat) (a0 : Nat) (a1 : Int32) (a3 : Int32) (a4 : Int32) (ph : px_H) : Option (Int32 × px_H) :=
  (xpI ph 12 4 a0 a3).bind fun ph1 =>
  (xo ph1 12 a0).bind fun _ =>
  xb (f_M_put F a0 (nI 0) ((738142165265366049 : Int64)) (nI 8) ph1) fun _ ph2 =>
  (xo ph2 12 a0).bind fun _ =>
  xb (f_M_ahead F a0 (nI 8) a4 ph2) fun _ ph3 =>
  (xgR ph3 12 3 a0).bind fun t4 =>
  (xsI ph3 0 t4 (nI 8) ((nI 47).toInt8.toInt32)).bind fun ph5 =>
  (xo ph5 12 a0).bind fun _ =>
  xb (f_M_highFirst F a0 (nI 68) a1 ph5) fun _ ph6 =>
  if (a4 - a4 / (nI 2) * (nI 2)) = (nI 1) then
    (xgR ph6 12 3 a0).bind fun t7 =>
    (xsI ph6 0 t7 ((((nI 68) + a4) + (a4 - a4 / (nI 2) * (nI 2))) - (nI 1)) ((nI 10).toInt8.toInt32)).bind fun ph8 =>
    f_M_pack_269 F a0 a3 (nI 72) ((nI 72) + ((nI 4) * a1)) (((nI 68) + a4) + (a4 - a4 / (nI 2) * (nI 2))) ph8
  else
    f_M_pack_269 F a0 a3 (nI 72) ((nI 72) + ((nI 4) * a1)) (((nI 68) + a4) + (a4 - a4 / (nI 2) * (nI 2))) ph6
theorem r_M_pack_187 {l : Launch} {g : px_G} {d F : Nat} {a0 : Nat} {a1 : Int32} {a3 : Int32} {a4 : Int32} {ph : px_H} {r : Int32} {ph' : px_H} (h : f_M_pack_187 F a0 a1 a3 a4 ph = some (r, ph')) : PW l g (d + 7) m_M_pack 187 [.ref a0, .int a1, px_u, .int a3, .int a4, px_u, px_u, px_u, px_u, px_u, px_u, px_u] [] ph (px_qI r ph') := by
  unfold f_M_pack_187 at h
  refine px_ld rfl rfl rfl rfl rfl ?_
  refine px_ld rfl rfl rfl rfl rfl ?_
  obtain ⟨ph1, h0, h⟩ := xs_some h
  obtain ⟨fs, e1, e2, e3⟩ := xpI_some h0
  subst e3
  refine px_put rfl e1 e2 trivial rfl ?_
  refine px_ld rfl rfl rfl rfl rfl ?_
  refine px_ic (k := 0) rfl rfl rfl ?_
  refine px_ldc2 rfl rfl rfl ?_
  refine px_ic (k := 8) rfl rfl rfl ?_
  obtain ⟨fs, h0, h⟩ := xs_some h
  have e1 := xo_some h0
  obtain ⟨u0, ph2, h0, h⟩ := xb_some h
  refine px_cV3 rfl rfl e1 rfl rfl rfl rfl rfl rfl rfl (r_M_put h0 :) (fun _ _ q => nomatch q.2) (fun r ph' q => ?_)
  obtain ⟨rfl, q⟩ := q
  cases q
  refine px_ld rfl rfl rfl rfl rfl ?_
  refine px_ic (k := 8) rfl rfl rfl ?_
  refine px_ld rfl rfl rfl rfl rfl ?_
  obtain ⟨fs, h0, h⟩ := xs_some h
  have e1 := xo_some h0
  obtain ⟨u0, ph3, h0, h⟩ := xb_some h
  refine px_cV2 rfl rfl e1 rfl rfl rfl rfl rfl rfl rfl (r_M_ahead h0 :) (fun _ _ q => nomatch q.2) (fun r ph' q => ?_)
  obtain ⟨rfl, q⟩ := q
  cases q
  refine px_ld rfl rfl rfl rfl rfl ?_
  obtain ⟨t4, h0, h⟩ := xs_some h
  obtain ⟨fs, e1, e2⟩ := xgR_some h0
  refine px_get rfl e1 e2 rfl ?_
  refine px_ic (k := 8) rfl rfl rfl ?_
  refine px_ic (k := 47) rfl rfl rfl ?_
  obtain ⟨ph5, h0, h⟩ := xs_some h
  obtain ⟨N, f, e1, e2, e3⟩ := xsI_some h0
  subst e3
  refine px_bast rfl e1 rfl e2 rfl ?_
  refine px_ld rfl rfl rfl rfl rfl ?_
  refine px_ic (k := 68) rfl rfl rfl ?_
  refine px_ld rfl rfl rfl rfl rfl ?_
  obtain ⟨fs, h0, h⟩ := xs_some h
  have e1 := xo_some h0
  obtain ⟨u0, ph6, h0, h⟩ := xb_some h
  refine px_cV2 rfl rfl e1 rfl rfl rfl rfl rfl rfl rfl (r_M_highFirst h0 :) (fun _ _ q => nomatch q.2) (fun r ph' q => ?_)
  obtain ⟨rfl, q⟩ := q
  cases q
  refine px_ic (k := 72) rfl rfl rfl ?_
  refine px_st (lv' := [_, _, _, _, _, _, _, _, _, _, _, _]) rfl rfl rfl rfl rfl rfl rfl ?_
  refine px_ic (k := 72) rfl rfl rfl ?_
  refine px_ic (k := 4) rfl rfl rfl ?_
  refine px_ld rfl rfl rfl rfl rfl ?_
  refine px_alu rfl rfl rfl ?_
  refine px_alu rfl rfl rfl ?_
  refine px_st (lv' := [_, _, _, _, _, _, _, _, _, _, _, _]) rfl rfl rfl rfl rfl rfl rfl ?_
  refine px_ic (k := 68) rfl rfl rfl ?_
  refine px_ld rfl rfl rfl rfl rfl ?_
  refine px_alu rfl rfl rfl ?_
  refine px_ld rfl rfl rfl rfl rfl ?_
  refine px_ic (k := 2) rfl rfl rfl ?_
  refine px_irem rfl (by decide) rfl ?_
  refine px_alu rfl rfl rfl ?_
  refine px_st (lv' := [_, _, _, _, _, _, _, _, _, _, _, _]) rfl rfl rfl rfl rfl rfl rfl ?_
  refine px_ld rfl rfl rfl rfl rfl ?_
  refine px_ic (k := 2) rfl rfl rfl ?_
  refine px_irem rfl (by decide) rfl ?_
  refine px_ic (k := 1) rfl rfl rfl ?_
  refine px_icne rfl (by decide) rfl (fun hc => ?_) (fun hc => ?_)
  · replace h := (if_neg hc).symm.trans h
    refine px_forget (n := 1) (lv' := [_, _, _, _, _, _, _, _, _, _, _, _]) rfl ?_
    refine px_forget (n := 4) (lv' := [_, _, _, _, _, _, _, _, _, _, _, _]) rfl ?_
    exact (r_M_pack_269 h :)
  · replace h := (if_pos hc).symm.trans h
    refine px_ld rfl rfl rfl rfl rfl ?_
    obtain ⟨t7, h0, h⟩ := xs_some h
    obtain ⟨fs, e1, e2⟩ := xgR_some h0
    refine px_get rfl e1 e2 rfl ?_
    refine px_ld rfl rfl rfl rfl rfl ?_
    refine px_ic (k := 1) rfl rfl rfl ?_
    refine px_alu rfl rfl rfl ?_
    refine px_ic (k := 10) rfl rfl rfl ?_
    obtain ⟨ph8, h0, h⟩ := xs_some h
    obtain ⟨N, f, e1, e2, e3⟩ := xsI_some h0
    subst e3
    refine px_bast rfl e1 rfl e2 rfl ?_
    refine px_forget (n := 1) (lv' := [_, _, _, _, _, _, _, _, _, _, _, _]) rfl ?_
    refine px_forget (n := 4) (lv' := [_, _, _, _, _, _, _, _, _, _, _, _]) rfl ?_
    exact (r_M_pack_269 h :)
def f_M_pack_167 (F : Nat) : Nat → Nat → Int32 → Int32 → Int32 → Int32 → px_H → Option (Int32 × px_H)
  | 0, _, _, _, _, _, _ => none
  | n + 1, a0, a1, a3, a4, a5, ph =>
    if a3 ≤ a5 then
      f_M_pack_187 F a0 a1 a3 a4 ph
    else
      (xgR ph 12 3 a0).bind fun t1 =>
      (xsI ph 0 t1 a5 ((nI 0).toInt8.toInt32)).bind fun ph2 =>
      f_M_pack_167 F n a0 a1 a3 a4 (a5 + nI 1) ph2
theorem r_M_pack_167 {l : Launch} {g : px_G} {d F : Nat} : ∀ (n : Nat) {a0 : Nat} {a1 : Int32} {a3 : Int32} {a4 : Int32} {a5 : Int32} {ph : px_H} {r : Int32} {ph' : px_H}, f_M_pack_167 F n a0 a1 a3 a4 a5 ph = some (r, ph') → PW l g (d + 7) m_M_pack 167 [.ref a0, .int a1, px_u, .int a3, .int a4, .int a5, px_u, px_u, px_u, px_u, px_u, px_u] [] ph (px_qI r ph') := by
  intro n
  induction n with
  | zero => intro _ _ _ _ _ _ _ _ h; cases h
  | succ n ih =>
    intro a0 a1 a3 a4 a5 ph r ph' h
    unfold f_M_pack_167 at h
    refine px_ld rfl rfl rfl rfl rfl ?_
    refine px_ld rfl rfl rfl rfl rfl ?_
    refine px_icge rfl (by decide) rfl (fun hc => ?_) (fun hc => ?_)
    · replace h := (if_pos hc).symm.trans h
      refine px_forget (n := 5) (lv' := [_, _, _, _, _, _, _, _, _, _, _, _]) rfl ?_
      exact (r_M_pack_187 h :)
    · replace h := (if_neg hc).symm.trans h
      refine px_ld rfl rfl rfl rfl rfl ?_
      obtain ⟨t1, h0, h⟩ := xs_some h
      obtain ⟨fs, e1, e2⟩ := xgR_some h0
      refine px_get rfl e1 e2 rfl ?_
      refine px_ld rfl rfl rfl rfl rfl ?_
      refine px_ic (k := 0) rfl rfl rfl ?_
      obtain ⟨ph2, h0, h⟩ := xs_some h
      obtain ⟨N, f, e1, e2, e3⟩ := xsI_some h0
      subst e3
      refine px_bast rfl e1 rfl e2 rfl ?_
      refine px_iinc (lv' := [_, _, _, _, _, _, _, _, _, _, _, _]) rfl rfl rfl rfl rfl rfl ?_
      refine px_goto rfl (by decide) rfl ?_
      exact (ih h :)
def f_M_pack_136 (F : Nat) (a0 : Nat) (a1 : Int32) (a2 : Int32) (a3 : Int32) (ph : px_H) : Option (Int32 × px_H) :=
  if (a3 + ((((nI 4) + ((nI 4) * a1)) + a2) + ((((nI 4) + ((nI 4) * a1)) + a2) - (((nI 4) + ((nI 4) * a1)) + a2) / (nI 2) * (nI 2)))) ≤ (nI 8192) then
    f_M_pack_167 F F a0 a1 (a3 + ((((nI 4) + ((nI 4) * a1)) + a2) + ((((nI 4) + ((nI 4) * a1)) + a2) - (((nI 4) + ((nI 4) * a1)) + a2) / (nI 2) * (nI 2)))) (((nI 4) + ((nI 4) * a1)) + a2) (nI 0) ph
  else
    some (Int32.ofInt (-1), ph)
theorem r_M_pack_136 {l : Launch} {g : px_G} {d F : Nat} {a0 : Nat} {a1 : Int32} {a2 : Int32} {a3 : Int32} {ph : px_H} {r : Int32} {ph' : px_H} (h : f_M_pack_136 F a0 a1 a2 a3 ph = some (r, ph')) : PW l g (d + 7) m_M_pack 136 [.ref a0, .int a1, .int a2, .int a3, px_u, px_u, px_u, px_u, px_u, px_u, px_u, px_u] [] ph (px_qI r ph') := by
  unfold f_M_pack_136 at h
  refine px_ic (k := 4) rfl rfl rfl ?_
  refine px_ic (k := 4) rfl rfl rfl ?_
  refine px_ld rfl rfl rfl rfl rfl ?_
  refine px_alu rfl rfl rfl ?_
  refine px_alu rfl rfl rfl ?_
  refine px_ld rfl rfl rfl rfl rfl ?_
  refine px_alu rfl rfl rfl ?_
  refine px_st (lv' := [_, _, _, _, _, _, _, _, _, _, _, _]) rfl rfl rfl rfl rfl rfl rfl ?_
  refine px_ld rfl rfl rfl rfl rfl ?_
  refine px_ld rfl rfl rfl rfl rfl ?_
  refine px_ld rfl rfl rfl rfl rfl ?_
  refine px_ic (k := 2) rfl rfl rfl ?_
  refine px_irem rfl (by decide) rfl ?_
  refine px_alu rfl rfl rfl ?_
  refine px_alu rfl rfl rfl ?_
  refine px_st (lv' := [_, _, _, _, _, _, _, _, _, _, _, _]) rfl rfl rfl rfl rfl rfl rfl ?_
  refine px_ld rfl rfl rfl rfl rfl ?_
  refine px_ic (k := 8192) rfl rfl rfl ?_
  refine px_icle rfl (by decide) rfl (fun hc => ?_) (fun hc => ?_)
  · replace h := (if_pos hc).symm.trans h
    refine px_ic (k := 0) rfl rfl rfl ?_
    refine px_st (lv' := [_, _, _, _, _, _, _, _, _, _, _, _]) rfl rfl rfl rfl rfl rfl rfl ?_
    refine px_forget (n := 2) (lv' := [_, _, _, _, _, _, _, _, _, _, _, _]) rfl ?_
    exact (r_M_pack_167 _ h :)
  · replace h := (if_neg hc).symm.trans h
    refine px_alu rfl rfl rfl ?_
    cases h
    exact px_iret rfl (Or.inl rfl) rfl ⟨rfl, rfl⟩
def f_M_pack_107 (F : Nat) (k30 : Nat → Int32 → Int32 → Int32 → Int32 → px_H → Option (Int32 × px_H)) (a0 : Nat) (a1 : Int32) (a2 : Int32) (a3 : Int32) (a4 : Int32) (ph : px_H) : Option (Int32 × px_H) :=
  (xgR ph 12 129 a0).bind fun t1 =>
  (xaI ph 1 t1 a4).bind fun t2 =>
  (xgR ph 12 129 a0).bind fun t3 =>
  (xaI ph 1 t3 a4).bind fun t4 =>
  k30 a0 a1 a2 (a3 + (((nI 60) + t2) + (t4 - t4 / (nI 2) * (nI 2)))) (a4 + nI 1) ph
theorem r_M_pack_107 {l : Launch} {g : px_G} {d F : Nat} {k30 : Nat → Int32 → Int32 → Int32 → Int32 → px_H → Option (Int32 × px_H)} (hk30 : ∀ {a0 : Nat} {a1 : Int32} {a2 : Int32} {a3 : Int32} {a4 : Int32} {ph : px_H} {r : Int32} {ph' : px_H}, k30 a0 a1 a2 a3 a4 ph = some (r, ph') → PW l g (d + 7) m_M_pack 30 [.ref a0, .int a1, .int a2, .int a3, .int a4, px_u, px_u, px_u, px_u, px_u, px_u, px_u] [] ph (px_qI r ph')) {a0 : Nat} {a1 : Int32} {a2 : Int32} {a3 : Int32} {a4 : Int32} {ph : px_H} {r : Int32} {ph' : px_H} (h : f_M_pack_107 F k30 a0 a1 a2 a3 a4 ph = some (r, ph')) : PW l g (d + 7) m_M_pack 107 [.ref a0, .int a1, .int a2, .int a3, .int a4, px_u, px_u, px_u, px_u, px_u, px_u, px_u] [] ph (px_qI r ph') := by
  unfold f_M_pack_107 at h
  refine px_ld rfl rfl rfl rfl rfl ?_
  refine px_ic (k := 60) rfl rfl rfl ?_
  refine px_ld rfl rfl rfl rfl rfl ?_
  obtain ⟨t1, h0, h⟩ := xs_some h
  obtain ⟨fs, e1, e2⟩ := xgR_some h0
  refine px_get rfl e1 e2 rfl ?_
  refine px_ld rfl rfl rfl rfl rfl ?_
  obtain ⟨t2, h0, h⟩ := xs_some h
  obtain ⟨N, f, e1, e2, e3⟩ := xaI_some h0
  subst e3
  refine px_iald rfl e1 rfl e2 rfl ?_
  refine px_alu rfl rfl rfl ?_
  refine px_ld rfl rfl rfl rfl rfl ?_
  obtain ⟨t3, h0, h⟩ := xs_some h
  obtain ⟨fs, e1, e2⟩ := xgR_some h0
  refine px_get rfl e1 e2 rfl ?_
  refine px_ld rfl rfl rfl rfl rfl ?_
  obtain ⟨t4, h0, h⟩ := xs_some h
  obtain ⟨N, f, e1, e2, e3⟩ := xaI_some h0
  subst e3
  refine px_iald rfl e1 rfl e2 rfl ?_
  refine px_ic (k := 2) rfl rfl rfl ?_
  refine px_irem rfl (by decide) rfl ?_
  refine px_alu rfl rfl rfl ?_
  refine px_alu rfl rfl rfl ?_
  refine px_st (lv' := [_, _, _, _, _, _, _, _, _, _, _, _]) rfl rfl rfl rfl rfl rfl rfl ?_
  refine px_iinc (lv' := [_, _, _, _, _, _, _, _, _, _, _, _]) rfl rfl rfl rfl rfl rfl ?_
  refine px_goto rfl (by decide) rfl ?_
  exact (hk30 h :)
def f_M_pack_101 (F : Nat) (k30 : Nat → Int32 → Int32 → Int32 → Int32 → px_H → Option (Int32 × px_H)) (k51 : Nat → Int32 → Int32 → Int32 → Int32 → Int32 → Int32 → px_H → Option (Int32 × px_H)) (a0 : Nat) (a1 : Int32) (a2 : Int32) (a3 : Int32) (a4 : Int32) (a5 : Int32) (a6 : Int32) (ph : px_H) : Option (Int32 × px_H) :=
  k51 a0 a1 a2 a3 a4 a5 (a6 + nI 1) ph
theorem r_M_pack_101 {l : Launch} {g : px_G} {d F : Nat} {k30 : Nat → Int32 → Int32 → Int32 → Int32 → px_H → Option (Int32 × px_H)} (hk30 : ∀ {a0 : Nat} {a1 : Int32} {a2 : Int32} {a3 : Int32} {a4 : Int32} {ph : px_H} {r : Int32} {ph' : px_H}, k30 a0 a1 a2 a3 a4 ph = some (r, ph') → PW l g (d + 7) m_M_pack 30 [.ref a0, .int a1, .int a2, .int a3, .int a4, px_u, px_u, px_u, px_u, px_u, px_u, px_u] [] ph (px_qI r ph')) {k51 : Nat → Int32 → Int32 → Int32 → Int32 → Int32 → Int32 → px_H → Option (Int32 × px_H)} (hk51 : ∀ {a0 : Nat} {a1 : Int32} {a2 : Int32} {a3 : Int32} {a4 : Int32} {a5 : Int32} {a6 : Int32} {ph : px_H} {r : Int32} {ph' : px_H}, k51 a0 a1 a2 a3 a4 a5 a6 ph = some (r, ph') → PW l g (d + 7) m_M_pack 51 [.ref a0, .int a1, .int a2, .int a3, .int a4, .int a5, .int a6, px_u, px_u, px_u, px_u, px_u] [] ph (px_qI r ph')) {a0 : Nat} {a1 : Int32} {a2 : Int32} {a3 : Int32} {a4 : Int32} {a5 : Int32} {a6 : Int32} {ph : px_H} {r : Int32} {ph' : px_H} (h : f_M_pack_101 F k30 k51 a0 a1 a2 a3 a4 a5 a6 ph = some (r, ph')) : PW l g (d + 7) m_M_pack 101 [.ref a0, .int a1, .int a2, .int a3, .int a4, .int a5, .int a6, px_u, px_u, px_u, px_u, px_u] [] ph (px_qI r ph') := by
  unfold f_M_pack_101 at h
  refine px_iinc (lv' := [_, _, _, _, _, _, _, _, _, _, _, _]) rfl rfl rfl rfl rfl rfl ?_
  refine px_goto rfl (by decide) rfl ?_
  exact (hk51 h :)
def f_M_pack_51 (F : Nat) (k30 : Nat → Int32 → Int32 → Int32 → Int32 → px_H → Option (Int32 × px_H)) : Nat → Nat → Int32 → Int32 → Int32 → Int32 → Int32 → Int32 → px_H → Option (Int32 × px_H)
  | 0, _, _, _, _, _, _, _, _ => none
  | n + 1, a0, a1, a2, a3, a4, a5, a6, ph =>
    (xo ph 12 a0).bind fun _ =>
    xb (f_M_symbolMany F a0 a5 ph) fun t1 ph2 =>
    if t1 ≤ a6 then
      f_M_pack_107 F k30 a0 a1 a2 a3 a4 ph2
    else
      (xo ph2 12 a0).bind fun _ =>
      xb (f_M_isDefining F a0 a5 a6 ph2) fun t3 ph4 =>
      if t3 = 0 then
        f_M_pack_101 F k30 (f_M_pack_51 F k30 n) a0 a1 a2 a3 a4 a5 a6 ph4
      else
        (xo ph4 12 a0).bind fun _ =>
        xb (f_M_nameEnd F a0 a5 a6 ph4) fun t5 ph6 =>
        (xo ph6 12 a0).bind fun _ =>
        xb (f_M_nameAt F a0 a5 a6 ph6) fun t7 ph8 =>
        f_M_pack_101 F k30 (f_M_pack_51 F k30 n) a0 (a1 + nI 1) (a2 + ((t5 - t7) + (nI 1))) a3 a4 a5 a6 ph8
theorem r_M_pack_51 {l : Launch} {g : px_G} {d F : Nat} {k30 : Nat → Int32 → Int32 → Int32 → Int32 → px_H → Option (Int32 × px_H)} (hk30 : ∀ {a0 : Nat} {a1 : Int32} {a2 : Int32} {a3 : Int32} {a4 : Int32} {ph : px_H} {r : Int32} {ph' : px_H}, k30 a0 a1 a2 a3 a4 ph = some (r, ph') → PW l g (d + 7) m_M_pack 30 [.ref a0, .int a1, .int a2, .int a3, .int a4, px_u, px_u, px_u, px_u, px_u, px_u, px_u] [] ph (px_qI r ph')) : ∀ (n : Nat) {a0 : Nat} {a1 : Int32} {a2 : Int32} {a3 : Int32} {a4 : Int32} {a5 : Int32} {a6 : Int32} {ph : px_H} {r : Int32} {ph' : px_H}, f_M_pack_51 F k30 n a0 a1 a2 a3 a4 a5 a6 ph = some (r, ph') → PW l g (d + 7) m_M_pack 51 [.ref a0, .int a1, .int a2, .int a3, .int a4, .int a5, .int a6, px_u, px_u, px_u, px_u, px_u] [] ph (px_qI r ph') := by
  intro n
  induction n with
  | zero => intro _ _ _ _ _ _ _ _ _ _ h; cases h
  | succ n ih =>
    intro a0 a1 a2 a3 a4 a5 a6 ph r ph' h
    unfold f_M_pack_51 at h
    refine px_ld rfl rfl rfl rfl rfl ?_
    refine px_ld rfl rfl rfl rfl rfl ?_
    refine px_ld rfl rfl rfl rfl rfl ?_
    obtain ⟨fs, h0, h⟩ := xs_some h
    have e1 := xo_some h0
    obtain ⟨t1, ph2, h0, h⟩ := xb_some h
    refine px_cV1 rfl rfl e1 rfl rfl rfl rfl rfl rfl rfl (r_M_symbolMany h0 :) (fun _ _ q => nomatch q.2) (fun r ph' q => ?_)
    obtain ⟨rfl, q⟩ := q
    cases q
    refine px_icge rfl (by decide) rfl (fun hc => ?_) (fun hc => ?_)
    · replace h := (if_pos hc).symm.trans h
      refine px_forget (n := 5) (lv' := [_, _, _, _, _, _, _, _, _, _, _, _]) rfl ?_
      refine px_forget (n := 6) (lv' := [_, _, _, _, _, _, _, _, _, _, _, _]) rfl ?_
      exact (r_M_pack_107 @hk30 h :)
    · replace h := (if_neg hc).symm.trans h
      refine px_ld rfl rfl rfl rfl rfl ?_
      refine px_ld rfl rfl rfl rfl rfl ?_
      refine px_ld rfl rfl rfl rfl rfl ?_
      obtain ⟨fs, h0, h⟩ := xs_some h
      have e1 := xo_some h0
      obtain ⟨t3, ph4, h0, h⟩ := xb_some h
      refine px_cV2 rfl rfl e1 rfl rfl rfl rfl rfl rfl rfl (r_M_isDefining h0 :) (fun _ _ q => nomatch q.2) (fun r ph' q => ?_)
      obtain ⟨rfl, q⟩ := q
      cases q
      refine px_ifne rfl (by decide) rfl (fun hc => ?_) (fun hc => ?_)
      · replace h := (if_neg hc).symm.trans h
        refine px_iinc (lv' := [_, _, _, _, _, _, _, _, _, _, _, _]) rfl rfl rfl rfl rfl rfl ?_
        refine px_ld rfl rfl rfl rfl rfl ?_
        refine px_ld rfl rfl rfl rfl rfl ?_
        refine px_ld rfl rfl rfl rfl rfl ?_
        refine px_ld rfl rfl rfl rfl rfl ?_
        obtain ⟨fs, h0, h⟩ := xs_some h
        have e1 := xo_some h0
        obtain ⟨t5, ph6, h0, h⟩ := xb_some h
        refine px_cV2 rfl rfl e1 rfl rfl rfl rfl rfl rfl rfl (r_M_nameEnd h0 :) (fun _ _ q => nomatch q.2) (fun r ph' q => ?_)
        obtain ⟨rfl, q⟩ := q
        cases q
        refine px_ld rfl rfl rfl rfl rfl ?_
        refine px_ld rfl rfl rfl rfl rfl ?_
        refine px_ld rfl rfl rfl rfl rfl ?_
        obtain ⟨fs, h0, h⟩ := xs_some h
        have e1 := xo_some h0
        obtain ⟨t7, ph8, h0, h⟩ := xb_some h
        refine px_cV2 rfl rfl e1 rfl rfl rfl rfl rfl rfl rfl (r_M_nameAt h0 :) (fun _ _ q => nomatch q.2) (fun r ph' q => ?_)
        obtain ⟨rfl, q⟩ := q
        cases q
        refine px_alu rfl rfl rfl ?_
        refine px_ic (k := 1) rfl rfl rfl ?_
        refine px_alu rfl rfl rfl ?_
        refine px_alu rfl rfl rfl ?_
        refine px_st (lv' := [_, _, _, _, _, _, _, _, _, _, _, _]) rfl rfl rfl rfl rfl rfl rfl ?_
        exact (r_M_pack_101 @hk30 @ih h :)
      · replace h := (if_pos hc).symm.trans h
        refine px_goto rfl (by decide) rfl ?_
        exact (r_M_pack_101 @hk30 @ih h :)
def f_M_pack_30 (F : Nat) : Nat → Nat → Int32 → Int32 → Int32 → Int32 → px_H → Option (Int32 × px_H)
  | 0, _, _, _, _, _, _ => none
  | n + 1, a0, a1, a2, a3, a4, ph =>
    (xgI ph 12 127 a0).bind fun t1 =>
    if t1 ≤ a4 then
      f_M_pack_136 F a0 a1 a2 a3 ph
    else
      (xgR ph 12 128 a0).bind fun t2 =>
      (xaI ph 1 t2 a4).bind fun t3 =>
      f_M_pack_51 F (f_M_pack_30 F n) F a0 a1 a2 a3 a4 t3 (nI 1) ph
theorem r_M_pack_30 {l : Launch} {g : px_G} {d F : Nat} : ∀ (n : Nat) {a0 : Nat} {a1 : Int32} {a2 : Int32} {a3 : Int32} {a4 : Int32} {ph : px_H} {r : Int32} {ph' : px_H}, f_M_pack_30 F n a0 a1 a2 a3 a4 ph = some (r, ph') → PW l g (d + 7) m_M_pack 30 [.ref a0, .int a1, .int a2, .int a3, .int a4, px_u, px_u, px_u, px_u, px_u, px_u, px_u] [] ph (px_qI r ph') := by
  intro n
  induction n with
  | zero => intro _ _ _ _ _ _ _ _ h; cases h
  | succ n ih =>
    intro a0 a1 a2 a3 a4 ph r ph' h
    unfold f_M_pack_30 at h
    refine px_ld rfl rfl rfl rfl rfl ?_
    refine px_ld rfl rfl rfl rfl rfl ?_
    obtain ⟨t1, h0, h⟩ := xs_some h
    obtain ⟨fs, e1, e2⟩ := xgI_some h0
    refine px_get rfl e1 e2 rfl ?_
    refine px_icge rfl (by decide) rfl (fun hc => ?_) (fun hc => ?_)
    · replace h := (if_pos hc).symm.trans h
      refine px_forget (n := 4) (lv' := [_, _, _, _, _, _, _, _, _, _, _, _]) rfl ?_
      exact (r_M_pack_136 h :)
    · replace h := (if_neg hc).symm.trans h
      refine px_ld rfl rfl rfl rfl rfl ?_
      obtain ⟨t2, h0, h⟩ := xs_some h
      obtain ⟨fs, e1, e2⟩ := xgR_some h0
      refine px_get rfl e1 e2 rfl ?_
      refine px_ld rfl rfl rfl rfl rfl ?_
      obtain ⟨t3, h0, h⟩ := xs_some h
      obtain ⟨N, f, e1, e2, e3⟩ := xaI_some h0
      subst e3
      refine px_iald rfl e1 rfl e2 rfl ?_
      refine px_st (lv' := [_, _, _, _, _, _, _, _, _, _, _, _]) rfl rfl rfl rfl rfl rfl rfl ?_
      refine px_ic (k := 1) rfl rfl rfl ?_
      refine px_st (lv' := [_, _, _, _, _, _, _, _, _, _, _, _]) rfl rfl rfl rfl rfl rfl rfl ?_
      exact (r_M_pack_51 @ih _ h :)
def f_M_pack (F : Nat) (a0 : Nat) (ph : px_H) : Option (Int32 × px_H) :=
  (xpI ph 12 0 a0 (nI 0)).bind fun ph1 =>
  (xo ph1 12 a0).bind fun _ =>
  xb (f_M_findObjects F a0 ph1) fun _ ph2 =>
  (xgI ph2 12 127 a0).bind fun t3 =>
  if t3 ≤ (nI 7) then
    f_M_pack_30 F F a0 (nI 0) (nI 0) (nI 68) (nI 0) ph2
  else
    some (Int32.ofInt (-1), ph2)
theorem r_M_pack {l : Launch} {g : px_G} {d F : Nat} {a0 : Nat} {ph : px_H} {r : Int32} {ph' : px_H} (h : f_M_pack F a0 ph = some (r, ph')) : PW l g (d + 7) m_M_pack 0 [.ref a0, px_u, px_u, px_u, px_u, px_u, px_u, px_u, px_u, px_u, px_u, px_u] [] ph (px_qI r ph') := by
  unfold f_M_pack at h
  refine px_ld rfl rfl rfl rfl rfl ?_
  refine px_ic (k := 0) rfl rfl rfl ?_
  obtain ⟨ph1, h0, h⟩ := xs_some h
  obtain ⟨fs, e1, e2, e3⟩ := xpI_some h0
  subst e3
  refine px_put rfl e1 e2 trivial rfl ?_
  refine px_ld rfl rfl rfl rfl rfl ?_
  obtain ⟨fs, h0, h⟩ := xs_some h
  have e1 := xo_some h0
  obtain ⟨u0, ph2, h0, h⟩ := xb_some h
  refine px_cV0 rfl rfl e1 rfl rfl rfl rfl rfl rfl rfl (r_M_findObjects h0 :) (fun _ _ q => nomatch q.2) (fun r ph' q => ?_)
  obtain ⟨rfl, q⟩ := q
  cases q
  refine px_ld rfl rfl rfl rfl rfl ?_
  obtain ⟨t3, h0, h⟩ := xs_some h
  obtain ⟨fs, e1, e2⟩ := xgI_some h0
  refine px_get rfl e1 e2 rfl ?_
  refine px_ic (k := 7) rfl rfl rfl ?_
  refine px_icle rfl (by decide) rfl (fun hc => ?_) (fun hc => ?_)
  · replace h := (if_pos hc).symm.trans h
    refine px_ic (k := 0) rfl rfl rfl ?_
    refine px_st (lv' := [_, _, _, _, _, _, _, _, _, _, _, _]) rfl rfl rfl rfl rfl rfl rfl ?_
    refine px_ic (k := 0) rfl rfl rfl ?_
    refine px_st (lv' := [_, _, _, _, _, _, _, _, _, _, _, _]) rfl rfl rfl rfl rfl rfl rfl ?_
    refine px_ic (k := 68) rfl rfl rfl ?_
    refine px_st (lv' := [_, _, _, _, _, _, _, _, _, _, _, _]) rfl rfl rfl rfl rfl rfl rfl ?_
    refine px_ic (k := 0) rfl rfl rfl ?_
    refine px_st (lv' := [_, _, _, _, _, _, _, _, _, _, _, _]) rfl rfl rfl rfl rfl rfl rfl ?_
    exact (r_M_pack_30 _ h :)
  · replace h := (if_neg hc).symm.trans h
    refine px_alu rfl rfl rfl ?_
    cases h
    exact px_iret rfl (Or.inl rfl) rfl ⟨rfl, rfl⟩
def f_M_sixteen_65 (F : Nat) (ph : px_H) : Option (Unit × px_H) :=
  some ((), ph)
theorem r_M_sixteen_65 {l : Launch} {g : px_G} {d F : Nat} {ph : px_H} {r : Unit} {ph' : px_H} (h : f_M_sixteen_65 F ph = some (r, ph')) : PW l g (d + 0) m_M_sixteen 65 [px_u, px_u, px_u, px_u, px_u, px_u] [] ph (px_qV r ph') := by
  unfold f_M_sixteen_65 at h
  cases h
  exact px_vret rfl rfl rfl ⟨rfl, rfl⟩
def f_M_sixteen_57 (F : Nat) (k3 : Nat → Int32 → Int64 → Int32 → px_H → Option (Unit × px_H)) (a0 : Nat) (a1 : Int32) (a2 : Int64) (a4 : Int32) (s0 : Nat) (s1 : Int32) (s2 : Int32) (ph : px_H) : Option (Unit × px_H) :=
  (xsI ph 0 s0 s1 (s2.toInt8.toInt32.toInt8.toInt32)).bind fun ph1 =>
  k3 a0 a1 a2 (a4 + nI 1) ph1
theorem r_M_sixteen_57 {l : Launch} {g : px_G} {d F : Nat} {k3 : Nat → Int32 → Int64 → Int32 → px_H → Option (Unit × px_H)} (hk3 : ∀ {a0 : Nat} {a1 : Int32} {a2 : Int64} {a4 : Int32} {ph : px_H} {r : Unit} {ph' : px_H}, k3 a0 a1 a2 a4 ph = some (r, ph') → PW l g (d + 0) m_M_sixteen 3 [.ref a0, .int a1, .long a2, px_u, .int a4, px_u] [] ph (px_qV r ph')) {a0 : Nat} {a1 : Int32} {a2 : Int64} {a4 : Int32} {s0 : Nat} {s1 : Int32} {s2 : Int32} {ph : px_H} {r : Unit} {ph' : px_H} (h : f_M_sixteen_57 F k3 a0 a1 a2 a4 s0 s1 s2 ph = some (r, ph')) : PW l g (d + 0) m_M_sixteen 57 [.ref a0, .int a1, .long a2, px_u, .int a4, px_u] [.int s2, .int s1, .ref s0] ph (px_qV r ph') := by
  unfold f_M_sixteen_57 at h
  refine px_alu rfl rfl rfl ?_
  obtain ⟨ph1, h0, h⟩ := xs_some h
  obtain ⟨N, f, e1, e2, e3⟩ := xsI_some h0
  subst e3
  refine px_bast rfl e1 rfl e2 rfl ?_
  refine px_iinc (lv' := [_, _, _, _, _, _]) rfl rfl rfl rfl rfl rfl ?_
  refine px_goto rfl rfl rfl ?_
  exact (hk3 h :)
def f_M_sixteen_3 (F : Nat) : Nat → Nat → Int32 → Int64 → Int32 → px_H → Option (Unit × px_H)
  | 0, _, _, _, _, _ => none
  | n + 1, a0, a1, a2, a4, ph =>
    if (nI 16) ≤ a4 then
      f_M_sixteen_65 F ph
    else
      (xgR ph 12 3 a0).bind fun t1 =>
      if (nI 10) ≤ ((((a2.toUInt64 >>> (((nI 60) - ((nI 4) * a4)).toInt64.toUInt64 &&& Int64.toUInt64 63)).toInt64) &&& ((15 : Int64))).toInt32) then
        f_M_sixteen_57 F (f_M_sixteen_3 F n) a0 a1 a2 a4 t1 (a1 + a4) (((nI 97) + ((((a2.toUInt64 >>> (((nI 60) - ((nI 4) * a4)).toInt64.toUInt64 &&& Int64.toUInt64 63)).toInt64) &&& ((15 : Int64))).toInt32)) - (nI 10)) ph
      else
        f_M_sixteen_57 F (f_M_sixteen_3 F n) a0 a1 a2 a4 t1 (a1 + a4) ((nI 48) + ((((a2.toUInt64 >>> (((nI 60) - ((nI 4) * a4)).toInt64.toUInt64 &&& Int64.toUInt64 63)).toInt64) &&& ((15 : Int64))).toInt32)) ph
theorem r_M_sixteen_3 {l : Launch} {g : px_G} {d F : Nat} : ∀ (n : Nat) {a0 : Nat} {a1 : Int32} {a2 : Int64} {a4 : Int32} {ph : px_H} {r : Unit} {ph' : px_H}, f_M_sixteen_3 F n a0 a1 a2 a4 ph = some (r, ph') → PW l g (d + 0) m_M_sixteen 3 [.ref a0, .int a1, .long a2, px_u, .int a4, px_u] [] ph (px_qV r ph') := by
  intro n
  induction n with
  | zero => intro _ _ _ _ _ _ _ h; cases h
  | succ n ih =>
    intro a0 a1 a2 a4 ph r ph' h
    unfold f_M_sixteen_3 at h
    refine px_ld rfl rfl rfl rfl rfl ?_
    refine px_ic (k := 16) rfl rfl rfl ?_
    refine px_icge rfl rfl rfl (fun hc => ?_) (fun hc => ?_)
    · replace h := (if_pos hc).symm.trans h
      refine px_forget (n := 0) (lv' := [_, _, _, _, _, _]) rfl ?_
      refine px_forget (n := 1) (lv' := [_, _, _, _, _, _]) rfl ?_
      refine px_forget (n := 2) (lv' := [_, _, _, _, _, _]) rfl ?_
      refine px_forget (n := 4) (lv' := [_, _, _, _, _, _]) rfl ?_
      exact (r_M_sixteen_65 h :)
    · replace h := (if_neg hc).symm.trans h
      refine px_ld rfl rfl rfl rfl rfl ?_
      refine px_ic (k := 60) rfl rfl rfl ?_
      refine px_ic (k := 4) rfl rfl rfl ?_
      refine px_ld rfl rfl rfl rfl rfl ?_
      refine px_alu rfl rfl rfl ?_
      refine px_alu rfl rfl rfl ?_
      refine px_alu rfl rfl rfl ?_
      refine px_ldc2 rfl rfl rfl ?_
      refine px_alu rfl rfl rfl ?_
      refine px_alu rfl rfl rfl ?_
      refine px_st (lv' := [_, _, _, _, _, _]) rfl rfl rfl rfl rfl rfl rfl ?_
      refine px_ld rfl rfl rfl rfl rfl ?_
      obtain ⟨t1, h0, h⟩ := xs_some h
      obtain ⟨fs, e1, e2⟩ := xgR_some h0
      refine px_get rfl e1 e2 rfl ?_
      refine px_ld rfl rfl rfl rfl rfl ?_
      refine px_ld rfl rfl rfl rfl rfl ?_
      refine px_alu rfl rfl rfl ?_
      refine px_ld rfl rfl rfl rfl rfl ?_
      refine px_ic (k := 10) rfl rfl rfl ?_
      refine px_icge rfl rfl rfl (fun hc => ?_) (fun hc => ?_)
      · replace h := (if_pos hc).symm.trans h
        refine px_ic (k := 97) rfl rfl rfl ?_
        refine px_ld rfl rfl rfl rfl rfl ?_
        refine px_alu rfl rfl rfl ?_
        refine px_ic (k := 10) rfl rfl rfl ?_
        refine px_alu rfl rfl rfl ?_
        refine px_forget (n := 5) (lv' := [_, _, _, _, _, _]) rfl ?_
        exact (r_M_sixteen_57 @ih h :)
      · replace h := (if_neg hc).symm.trans h
        refine px_ic (k := 48) rfl rfl rfl ?_
        refine px_ld rfl rfl rfl rfl rfl ?_
        refine px_alu rfl rfl rfl ?_
        refine px_goto rfl rfl rfl ?_
        refine px_forget (n := 5) (lv' := [_, _, _, _, _, _]) rfl ?_
        exact (r_M_sixteen_57 @ih h :)
def f_M_sixteen (F : Nat) (a0 : Nat) (a1 : Int32) (a2 : Int64) (ph : px_H) : Option (Unit × px_H) :=
  f_M_sixteen_3 F F a0 a1 a2 (nI 0) ph
theorem r_M_sixteen {l : Launch} {g : px_G} {d F : Nat} {a0 : Nat} {a1 : Int32} {a2 : Int64} {ph : px_H} {r : Unit} {ph' : px_H} (h : f_M_sixteen F a0 a1 a2 ph = some (r, ph')) : PW l g (d + 0) m_M_sixteen 0 [.ref a0, .int a1, .long a2, px_u, px_u, px_u] [] ph (px_qV r ph') := by
  unfold f_M_sixteen at h
  refine px_ic (k := 0) rfl rfl rfl ?_
  refine px_st (lv' := [_, _, _, _, _, _]) rfl rfl rfl rfl rfl rfl rfl ?_
  exact (r_M_sixteen_3 _ h :)
def f_M_letterOf_117 (F : Nat) (s0 : Int32) (ph : px_H) : Option (Int32 × px_H) :=
  some (s0, ph)
theorem r_M_letterOf_117 {l : Launch} {g : px_G} {d F : Nat} {s0 : Int32} {ph : px_H} {r : Int32} {ph' : px_H} (h : f_M_letterOf_117 F s0 ph = some (r, ph')) : PW l g (d + 6) m_M_letterOf 117 [px_u, px_u, px_u, px_u, px_u, px_u] [.int s0] ph (px_qI r ph') := by
  unfold f_M_letterOf_117 at h
  cases h
  exact px_iret rfl (Or.inl rfl) rfl ⟨rfl, rfl⟩
def f_M_letterOf_110 (F : Nat) (ph : px_H) : Option (Int32 × px_H) :=
  f_M_letterOf_117 F (nI 68) ph
theorem r_M_letterOf_110 {l : Launch} {g : px_G} {d F : Nat} {ph : px_H} {r : Int32} {ph' : px_H} (h : f_M_letterOf_110 F ph = some (r, ph')) : PW l g (d + 6) m_M_letterOf 110 [px_u, px_u, px_u, px_u, px_u, px_u] [] ph (px_qI r ph') := by
  unfold f_M_letterOf_110 at h
  refine px_ic (k := 68) rfl rfl rfl ?_
  refine px_goto rfl (by decide) rfl ?_
  exact (r_M_letterOf_117 h :)
def f_M_letterOf_40 (F : Nat) (s0 : Int32) (ph : px_H) : Option (Int32 × px_H) :=
  some (s0, ph)
theorem r_M_letterOf_40 {l : Launch} {g : px_G} {d F : Nat} {s0 : Int32} {ph : px_H} {r : Int32} {ph' : px_H} (h : f_M_letterOf_40 F s0 ph = some (r, ph')) : PW l g (d + 6) m_M_letterOf 40 [px_u, px_u, px_u, px_u, px_u, px_u] [.int s0] ph (px_qI r ph') := by
  unfold f_M_letterOf_40 at h
  cases h
  exact px_iret rfl (Or.inl rfl) rfl ⟨rfl, rfl⟩
def f_M_letterOf_22 (F : Nat) (a0 : Nat) (a1 : Int32) (a3 : Int32) (s0 : Int32) (ph : px_H) : Option (Int32 × px_H) :=
  if a3 = 0 then
    if s0 = 0 then
      f_M_letterOf_40 F (nI 85) ph
    else
      f_M_letterOf_40 F (nI 119) ph
  else
    if a3 = ((65522 : Int32)) then
      some (nI 67, ph)
    else
      if s0 = 0 then
        if a3 = ((65521 : Int32)) then
          some (nI 65, ph)
        else
          (xo ph 12 a0).bind fun _ =>
          xb (f_M_group F a0 a1 a3 ph) fun t1 ph2 =>
          if t1 = 0 then
            f_M_letterOf_117 F (nI 84) ph2
          else
            if t1 = (nI 1) then
              f_M_letterOf_117 F (nI 82) ph2
            else
              if t1 = (nI 2) then
                f_M_letterOf_110 F ph2
              else
                if t1 = (nI 4) then
                  f_M_letterOf_110 F ph2
                else
                  f_M_letterOf_117 F (nI 66) ph2
      else
        some (nI 87, ph)
theorem r_M_letterOf_22 {l : Launch} {g : px_G} {d F : Nat} {a0 : Nat} {a1 : Int32} {a3 : Int32} {s0 : Int32} {ph : px_H} {r : Int32} {ph' : px_H} (h : f_M_letterOf_22 F a0 a1 a3 s0 ph = some (r, ph')) : PW l g (d + 6) m_M_letterOf 22 [.ref a0, .int a1, px_u, .int a3, px_u, px_u] [.int s0] ph (px_qI r ph') := by
  unfold f_M_letterOf_22 at h
  refine px_st (lv' := [_, _, _, _, _, _]) rfl rfl rfl rfl rfl rfl rfl ?_
  refine px_ld rfl rfl rfl rfl rfl ?_
  refine px_ifne rfl (by decide) rfl (fun hc => ?_) (fun hc => ?_)
  · replace h := (if_neg hc).symm.trans h
    refine px_ld rfl rfl rfl rfl rfl ?_
    refine px_ldcw rfl (by decide) rfl rfl ?_
    refine px_icne rfl (by decide) rfl (fun hc => ?_) (fun hc => ?_)
    · replace h := (if_neg hc).symm.trans h
      refine px_ld rfl rfl rfl rfl rfl ?_
      refine px_ifeq rfl (by decide) rfl (fun hc => ?_) (fun hc => ?_)
      · replace h := (if_pos hc).symm.trans h
        refine px_ld rfl rfl rfl rfl rfl ?_
        refine px_ldcw rfl (by decide) rfl rfl ?_
        refine px_icne rfl (by decide) rfl (fun hc => ?_) (fun hc => ?_)
        · replace h := (if_neg hc).symm.trans h
          refine px_ld rfl rfl rfl rfl rfl ?_
          refine px_ld rfl rfl rfl rfl rfl ?_
          refine px_ld rfl rfl rfl rfl rfl ?_
          obtain ⟨fs, h0, h⟩ := xs_some h
          have e1 := xo_some h0
          obtain ⟨t1, ph2, h0, h⟩ := xb_some h
          refine px_cV2 rfl rfl e1 rfl rfl rfl rfl rfl rfl rfl (r_M_group h0 :) (fun _ _ q => nomatch q.2) (fun r ph' q => ?_)
          obtain ⟨rfl, q⟩ := q
          cases q
          refine px_st (lv' := [_, _, _, _, _, _]) rfl rfl rfl rfl rfl rfl rfl ?_
          refine px_ld rfl rfl rfl rfl rfl ?_
          refine px_ifne rfl (by decide) rfl (fun hc => ?_) (fun hc => ?_)
          · replace h := (if_neg hc).symm.trans h
            refine px_ld rfl rfl rfl rfl rfl ?_
            refine px_ic (k := 1) rfl rfl rfl ?_
            refine px_icne rfl (by decide) rfl (fun hc => ?_) (fun hc => ?_)
            · replace h := (if_neg hc).symm.trans h
              refine px_ld rfl rfl rfl rfl rfl ?_
              refine px_ic (k := 2) rfl rfl rfl ?_
              refine px_iceq rfl (by decide) rfl (fun hc => ?_) (fun hc => ?_)
              · replace h := (if_pos hc).symm.trans h
                refine px_forget (n := 0) (lv' := [_, _, _, _, _, _]) rfl ?_
                refine px_forget (n := 1) (lv' := [_, _, _, _, _, _]) rfl ?_
                refine px_forget (n := 3) (lv' := [_, _, _, _, _, _]) rfl ?_
                refine px_forget (n := 4) (lv' := [_, _, _, _, _, _]) rfl ?_
                refine px_forget (n := 5) (lv' := [_, _, _, _, _, _]) rfl ?_
                exact (r_M_letterOf_110 h :)
              · replace h := (if_neg hc).symm.trans h
                refine px_ld rfl rfl rfl rfl rfl ?_
                refine px_ic (k := 4) rfl rfl rfl ?_
                refine px_icne rfl (by decide) rfl (fun hc => ?_) (fun hc => ?_)
                · replace h := (if_neg hc).symm.trans h
                  refine px_ic (k := 66) rfl rfl rfl ?_
                  refine px_forget (n := 0) (lv' := [_, _, _, _, _, _]) rfl ?_
                  refine px_forget (n := 1) (lv' := [_, _, _, _, _, _]) rfl ?_
                  refine px_forget (n := 3) (lv' := [_, _, _, _, _, _]) rfl ?_
                  refine px_forget (n := 4) (lv' := [_, _, _, _, _, _]) rfl ?_
                  refine px_forget (n := 5) (lv' := [_, _, _, _, _, _]) rfl ?_
                  exact (r_M_letterOf_117 h :)
                · replace h := (if_pos hc).symm.trans h
                  refine px_forget (n := 0) (lv' := [_, _, _, _, _, _]) rfl ?_
                  refine px_forget (n := 1) (lv' := [_, _, _, _, _, _]) rfl ?_
                  refine px_forget (n := 3) (lv' := [_, _, _, _, _, _]) rfl ?_
                  refine px_forget (n := 4) (lv' := [_, _, _, _, _, _]) rfl ?_
                  refine px_forget (n := 5) (lv' := [_, _, _, _, _, _]) rfl ?_
                  exact (r_M_letterOf_110 h :)
            · replace h := (if_pos hc).symm.trans h
              refine px_ic (k := 82) rfl rfl rfl ?_
              refine px_goto rfl (by decide) rfl ?_
              refine px_forget (n := 0) (lv' := [_, _, _, _, _, _]) rfl ?_
              refine px_forget (n := 1) (lv' := [_, _, _, _, _, _]) rfl ?_
              refine px_forget (n := 3) (lv' := [_, _, _, _, _, _]) rfl ?_
              refine px_forget (n := 4) (lv' := [_, _, _, _, _, _]) rfl ?_
              refine px_forget (n := 5) (lv' := [_, _, _, _, _, _]) rfl ?_
              exact (r_M_letterOf_117 h :)
          · replace h := (if_pos hc).symm.trans h
            refine px_ic (k := 84) rfl rfl rfl ?_
            refine px_goto rfl (by decide) rfl ?_
            refine px_forget (n := 0) (lv' := [_, _, _, _, _, _]) rfl ?_
            refine px_forget (n := 1) (lv' := [_, _, _, _, _, _]) rfl ?_
            refine px_forget (n := 3) (lv' := [_, _, _, _, _, _]) rfl ?_
            refine px_forget (n := 4) (lv' := [_, _, _, _, _, _]) rfl ?_
            refine px_forget (n := 5) (lv' := [_, _, _, _, _, _]) rfl ?_
            exact (r_M_letterOf_117 h :)
        · replace h := (if_pos hc).symm.trans h
          refine px_ic (k := 65) rfl rfl rfl ?_
          cases h
          exact px_iret rfl (Or.inl rfl) rfl ⟨rfl, rfl⟩
      · replace h := (if_neg hc).symm.trans h
        refine px_ic (k := 87) rfl rfl rfl ?_
        cases h
        exact px_iret rfl (Or.inl rfl) rfl ⟨rfl, rfl⟩
    · replace h := (if_pos hc).symm.trans h
      refine px_ic (k := 67) rfl rfl rfl ?_
      cases h
      exact px_iret rfl (Or.inl rfl) rfl ⟨rfl, rfl⟩
  · replace h := (if_pos hc).symm.trans h
    refine px_ld rfl rfl rfl rfl rfl ?_
    refine px_ifeq rfl (by decide) rfl (fun hc => ?_) (fun hc => ?_)
    · replace h := (if_pos hc).symm.trans h
      refine px_ic (k := 85) rfl rfl rfl ?_
      refine px_forget (n := 0) (lv' := [_, _, _, _, _, _]) rfl ?_
      refine px_forget (n := 1) (lv' := [_, _, _, _, _, _]) rfl ?_
      refine px_forget (n := 3) (lv' := [_, _, _, _, _, _]) rfl ?_
      refine px_forget (n := 4) (lv' := [_, _, _, _, _, _]) rfl ?_
      exact (r_M_letterOf_40 h :)
    · replace h := (if_neg hc).symm.trans h
      refine px_ic (k := 119) rfl rfl rfl ?_
      refine px_goto rfl (by decide) rfl ?_
      refine px_forget (n := 0) (lv' := [_, _, _, _, _, _]) rfl ?_
      refine px_forget (n := 1) (lv' := [_, _, _, _, _, _]) rfl ?_
      refine px_forget (n := 3) (lv' := [_, _, _, _, _, _]) rfl ?_
      refine px_forget (n := 4) (lv' := [_, _, _, _, _, _]) rfl ?_
      exact (r_M_letterOf_40 h :)
def f_M_letterOf (F : Nat) (a0 : Nat) (a1 : Int32) (a2 : Int32) (ph : px_H) : Option (Int32 × px_H) :=
  (xo ph 12 a0).bind fun _ =>
  xb (f_M_where F a0 a1 a2 ph) fun t1 ph2 =>
  (xo ph2 12 a0).bind fun _ =>
  xb (f_M_bind F a0 a1 a2 ph2) fun t3 ph4 =>
  if t3 = (nI 2) then
    f_M_letterOf_22 F a0 a1 t1 (nI 1) ph4
  else
    f_M_letterOf_22 F a0 a1 t1 (nI 0) ph4
theorem r_M_letterOf {l : Launch} {g : px_G} {d F : Nat} {a0 : Nat} {a1 : Int32} {a2 : Int32} {ph : px_H} {r : Int32} {ph' : px_H} (h : f_M_letterOf F a0 a1 a2 ph = some (r, ph')) : PW l g (d + 6) m_M_letterOf 0 [.ref a0, .int a1, .int a2, px_u, px_u, px_u] [] ph (px_qI r ph') := by
  unfold f_M_letterOf at h
  refine px_ld rfl rfl rfl rfl rfl ?_
  refine px_ld rfl rfl rfl rfl rfl ?_
  refine px_ld rfl rfl rfl rfl rfl ?_
  obtain ⟨fs, h0, h⟩ := xs_some h
  have e1 := xo_some h0
  obtain ⟨t1, ph2, h0, h⟩ := xb_some h
  refine px_cV2 rfl rfl e1 rfl rfl rfl rfl rfl rfl rfl (r_M_where h0 :) (fun _ _ q => nomatch q.2) (fun r ph' q => ?_)
  obtain ⟨rfl, q⟩ := q
  cases q
  refine px_st (lv' := [_, _, _, _, _, _]) rfl rfl rfl rfl rfl rfl rfl ?_
  refine px_ld rfl rfl rfl rfl rfl ?_
  refine px_ld rfl rfl rfl rfl rfl ?_
  refine px_ld rfl rfl rfl rfl rfl ?_
  obtain ⟨fs, h0, h⟩ := xs_some h
  have e1 := xo_some h0
  obtain ⟨t3, ph4, h0, h⟩ := xb_some h
  refine px_cV2 rfl rfl e1 rfl rfl rfl rfl rfl rfl rfl (r_M_bind h0 :) (fun _ _ q => nomatch q.2) (fun r ph' q => ?_)
  obtain ⟨rfl, q⟩ := q
  cases q
  refine px_ic (k := 2) rfl rfl rfl ?_
  refine px_icne rfl (by decide) rfl (fun hc => ?_) (fun hc => ?_)
  · replace h := (if_neg hc).symm.trans h
    refine px_ic (k := 0) rfl rfl rfl ?_
    refine px_forget (n := 2) (lv' := [_, _, _, _, _, _]) rfl ?_
    exact (r_M_letterOf_22 h :)
  · replace h := (if_pos hc).symm.trans h
    refine px_ic (k := 1) rfl rfl rfl ?_
    refine px_goto rfl (by decide) rfl ?_
    refine px_forget (n := 2) (lv' := [_, _, _, _, _, _]) rfl ?_
    exact (r_M_letterOf_22 h :)
def f_M_list_345 (F : Nat) (a0 : Nat) (ph : px_H) : Option (Int32 × px_H) :=
  (xgI ph 12 4 a0).bind fun t1 =>
  some (t1, ph)
theorem r_M_list_345 {l : Launch} {g : px_G} {d F : Nat} {a0 : Nat} {ph : px_H} {r : Int32} {ph' : px_H} (h : f_M_list_345 F a0 ph = some (r, ph')) : PW l g (d + 7) m_M_list 345 [.ref a0, px_u, px_u, px_u, px_u, px_u, px_u] [] ph (px_qI r ph') := by
  unfold f_M_list_345 at h
  refine px_ld rfl rfl rfl rfl rfl ?_
  obtain ⟨t1, h0, h⟩ := xs_some h
  obtain ⟨fs, e1, e2⟩ := xgI_some h0
  refine px_get rfl e1 e2 rfl ?_
  cases h
  exact px_iret rfl (Or.inl rfl) rfl ⟨rfl, rfl⟩
def f_M_list_339 (F : Nat) (k110 : Nat → Int32 → Int32 → px_H → Option (Int32 × px_H)) (a0 : Nat) (a4 : Int32) (a5 : Int32) (ph : px_H) : Option (Int32 × px_H) :=
  k110 a0 a4 (a5 + nI 1) ph
theorem r_M_list_339 {l : Launch} {g : px_G} {d F : Nat} {k110 : Nat → Int32 → Int32 → px_H → Option (Int32 × px_H)} (hk110 : ∀ {a0 : Nat} {a4 : Int32} {a5 : Int32} {ph : px_H} {r : Int32} {ph' : px_H}, k110 a0 a4 a5 ph = some (r, ph') → PW l g (d + 7) m_M_list 110 [.ref a0, px_u, px_u, px_u, .int a4, .int a5, px_u] [] ph (px_qI r ph')) {a0 : Nat} {a4 : Int32} {a5 : Int32} {ph : px_H} {r : Int32} {ph' : px_H} (h : f_M_list_339 F k110 a0 a4 a5 ph = some (r, ph')) : PW l g (d + 7) m_M_list 339 [.ref a0, px_u, px_u, px_u, .int a4, .int a5, px_u] [] ph (px_qI r ph') := by
  unfold f_M_list_339 at h
  refine px_iinc (lv' := [_, _, _, _, _, _, _]) rfl rfl rfl rfl rfl rfl ?_
  refine px_goto rfl (by decide) rfl ?_
  exact (hk110 h :)
def f_M_list_318 (F : Nat) (k110 : Nat → Int32 → Int32 → px_H → Option (Int32 × px_H)) (a0 : Nat) (a4 : Int32) (a5 : Int32) (ph : px_H) : Option (Int32 × px_H) :=
  (xgR ph 12 3 a0).bind fun t1 =>
  (xgI ph 12 4 a0).bind fun t2 =>
  (xsI ph 0 t1 t2 ((nI 10).toInt8.toInt32)).bind fun ph3 =>
  (xgI ph3 12 4 a0).bind fun t4 =>
  (xpI ph3 12 4 a0 (t4 + (nI 1))).bind fun ph5 =>
  f_M_list_339 F k110 a0 a4 a5 ph5
theorem r_M_list_318 {l : Launch} {g : px_G} {d F : Nat} {k110 : Nat → Int32 → Int32 → px_H → Option (Int32 × px_H)} (hk110 : ∀ {a0 : Nat} {a4 : Int32} {a5 : Int32} {ph : px_H} {r : Int32} {ph' : px_H}, k110 a0 a4 a5 ph = some (r, ph') → PW l g (d + 7) m_M_list 110 [.ref a0, px_u, px_u, px_u, .int a4, .int a5, px_u] [] ph (px_qI r ph')) {a0 : Nat} {a4 : Int32} {a5 : Int32} {ph : px_H} {r : Int32} {ph' : px_H} (h : f_M_list_318 F k110 a0 a4 a5 ph = some (r, ph')) : PW l g (d + 7) m_M_list 318 [.ref a0, px_u, px_u, px_u, .int a4, .int a5, px_u] [] ph (px_qI r ph') := by
  unfold f_M_list_318 at h
  refine px_ld rfl rfl rfl rfl rfl ?_
  obtain ⟨t1, h0, h⟩ := xs_some h
  obtain ⟨fs, e1, e2⟩ := xgR_some h0
  refine px_get rfl e1 e2 rfl ?_
  refine px_ld rfl rfl rfl rfl rfl ?_
  obtain ⟨t2, h0, h⟩ := xs_some h
  obtain ⟨fs, e1, e2⟩ := xgI_some h0
  refine px_get rfl e1 e2 rfl ?_
  refine px_ic (k := 10) rfl rfl rfl ?_
  obtain ⟨ph3, h0, h⟩ := xs_some h
  obtain ⟨N, f, e1, e2, e3⟩ := xsI_some h0
  subst e3
  refine px_bast rfl e1 rfl e2 rfl ?_
  refine px_ld rfl rfl rfl rfl rfl ?_
  refine px_alu rfl rfl rfl ?_
  obtain ⟨t4, h0, h⟩ := xs_some h
  obtain ⟨fs, e1, e2⟩ := xgI_some h0
  refine px_get rfl e1 e2 rfl ?_
  refine px_ic (k := 1) rfl rfl rfl ?_
  refine px_alu rfl rfl rfl ?_
  obtain ⟨ph5, h0, h⟩ := xs_some h
  obtain ⟨fs, e1, e2, e3⟩ := xpI_some h0
  subst e3
  refine px_put rfl e1 e2 trivial rfl ?_
  exact (r_M_list_339 @hk110 h :)
def f_M_list_273 (F : Nat) (k110 : Nat → Int32 → Int32 → px_H → Option (Int32 × px_H)) : Nat → Nat → Int32 → Int32 → Int32 → px_H → Option (Int32 × px_H)
  | 0, _, _, _, _, _ => none
  | n + 1, a0, a4, a5, a6, ph =>
    (xo ph 12 a0).bind fun _ =>
    xb (f_M_nameEnd F a0 a4 a5 ph) fun t1 ph2 =>
    if t1 ≤ a6 then
      f_M_list_318 F k110 a0 a4 a5 ph2
    else
      (xgR ph2 12 3 a0).bind fun t3 =>
      (xgI ph2 12 4 a0).bind fun t4 =>
      (xgR ph2 12 6 a0).bind fun t5 =>
      (xaI ph2 0 t5 a6).bind fun t6 =>
      (xsI ph2 0 t3 t4 (t6.toInt8.toInt32)).bind fun ph7 =>
      (xgI ph7 12 4 a0).bind fun t8 =>
      (xpI ph7 12 4 a0 (t8 + (nI 1))).bind fun ph9 =>
      f_M_list_273 F k110 n a0 a4 a5 (a6 + nI 1) ph9
theorem r_M_list_273 {l : Launch} {g : px_G} {d F : Nat} {k110 : Nat → Int32 → Int32 → px_H → Option (Int32 × px_H)} (hk110 : ∀ {a0 : Nat} {a4 : Int32} {a5 : Int32} {ph : px_H} {r : Int32} {ph' : px_H}, k110 a0 a4 a5 ph = some (r, ph') → PW l g (d + 7) m_M_list 110 [.ref a0, px_u, px_u, px_u, .int a4, .int a5, px_u] [] ph (px_qI r ph')) : ∀ (n : Nat) {a0 : Nat} {a4 : Int32} {a5 : Int32} {a6 : Int32} {ph : px_H} {r : Int32} {ph' : px_H}, f_M_list_273 F k110 n a0 a4 a5 a6 ph = some (r, ph') → PW l g (d + 7) m_M_list 273 [.ref a0, px_u, px_u, px_u, .int a4, .int a5, .int a6] [] ph (px_qI r ph') := by
  intro n
  induction n with
  | zero => intro _ _ _ _ _ _ _ h; cases h
  | succ n ih =>
    intro a0 a4 a5 a6 ph r ph' h
    unfold f_M_list_273 at h
    refine px_ld rfl rfl rfl rfl rfl ?_
    refine px_ld rfl rfl rfl rfl rfl ?_
    refine px_ld rfl rfl rfl rfl rfl ?_
    refine px_ld rfl rfl rfl rfl rfl ?_
    obtain ⟨fs, h0, h⟩ := xs_some h
    have e1 := xo_some h0
    obtain ⟨t1, ph2, h0, h⟩ := xb_some h
    refine px_cV2 rfl rfl e1 rfl rfl rfl rfl rfl rfl rfl (r_M_nameEnd h0 :) (fun _ _ q => nomatch q.2) (fun r ph' q => ?_)
    obtain ⟨rfl, q⟩ := q
    cases q
    refine px_icge rfl (by decide) rfl (fun hc => ?_) (fun hc => ?_)
    · replace h := (if_pos hc).symm.trans h
      refine px_forget (n := 6) (lv' := [_, _, _, _, _, _, _]) rfl ?_
      exact (r_M_list_318 @hk110 h :)
    · replace h := (if_neg hc).symm.trans h
      refine px_ld rfl rfl rfl rfl rfl ?_
      obtain ⟨t3, h0, h⟩ := xs_some h
      obtain ⟨fs, e1, e2⟩ := xgR_some h0
      refine px_get rfl e1 e2 rfl ?_
      refine px_ld rfl rfl rfl rfl rfl ?_
      obtain ⟨t4, h0, h⟩ := xs_some h
      obtain ⟨fs, e1, e2⟩ := xgI_some h0
      refine px_get rfl e1 e2 rfl ?_
      refine px_ld rfl rfl rfl rfl rfl ?_
      obtain ⟨t5, h0, h⟩ := xs_some h
      obtain ⟨fs, e1, e2⟩ := xgR_some h0
      refine px_get rfl e1 e2 rfl ?_
      refine px_ld rfl rfl rfl rfl rfl ?_
      obtain ⟨t6, h0, h⟩ := xs_some h
      obtain ⟨N, f, e1, e2, e3⟩ := xaI_some h0
      subst e3
      refine px_bald rfl e1 rfl e2 rfl ?_
      obtain ⟨ph7, h0, h⟩ := xs_some h
      obtain ⟨N, f, e1, e2, e3⟩ := xsI_some h0
      subst e3
      refine px_bast rfl e1 rfl e2 rfl ?_
      refine px_ld rfl rfl rfl rfl rfl ?_
      refine px_alu rfl rfl rfl ?_
      obtain ⟨t8, h0, h⟩ := xs_some h
      obtain ⟨fs, e1, e2⟩ := xgI_some h0
      refine px_get rfl e1 e2 rfl ?_
      refine px_ic (k := 1) rfl rfl rfl ?_
      refine px_alu rfl rfl rfl ?_
      obtain ⟨ph9, h0, h⟩ := xs_some h
      obtain ⟨fs, e1, e2, e3⟩ := xpI_some h0
      subst e3
      refine px_put rfl e1 e2 trivial rfl ?_
      refine px_iinc (lv' := [_, _, _, _, _, _, _]) rfl rfl rfl rfl rfl rfl ?_
      refine px_goto rfl (by decide) rfl ?_
      exact (ih h :)
def f_M_list_203 (F : Nat) (k110 : Nat → Int32 → Int32 → px_H → Option (Int32 × px_H)) (a0 : Nat) (a4 : Int32) (a5 : Int32) (ph : px_H) : Option (Int32 × px_H) :=
  (xgR ph 12 3 a0).bind fun t1 =>
  (xgI ph 12 4 a0).bind fun t2 =>
  (xsI ph 0 t1 (t2 + (nI 16)) ((nI 32).toInt8.toInt32)).bind fun ph3 =>
  (xgR ph3 12 3 a0).bind fun t4 =>
  (xgI ph3 12 4 a0).bind fun t5 =>
  (xo ph3 12 a0).bind fun _ =>
  xb (f_M_letterOf F a0 a4 a5 ph3) fun t6 ph7 =>
  (xsI ph7 0 t4 (t5 + (nI 17)) (t6.toInt8.toInt32.toInt8.toInt32)).bind fun ph8 =>
  (xgR ph8 12 3 a0).bind fun t9 =>
  (xgI ph8 12 4 a0).bind fun t10 =>
  (xsI ph8 0 t9 (t10 + (nI 18)) ((nI 32).toInt8.toInt32)).bind fun ph11 =>
  (xgI ph11 12 4 a0).bind fun t12 =>
  (xpI ph11 12 4 a0 (t12 + (nI 19))).bind fun ph13 =>
  (xo ph13 12 a0).bind fun _ =>
  xb (f_M_nameAt F a0 a4 a5 ph13) fun t14 ph15 =>
  f_M_list_273 F k110 F a0 a4 a5 t14 ph15
theorem r_M_list_203 {l : Launch} {g : px_G} {d F : Nat} {k110 : Nat → Int32 → Int32 → px_H → Option (Int32 × px_H)} (hk110 : ∀ {a0 : Nat} {a4 : Int32} {a5 : Int32} {ph : px_H} {r : Int32} {ph' : px_H}, k110 a0 a4 a5 ph = some (r, ph') → PW l g (d + 7) m_M_list 110 [.ref a0, px_u, px_u, px_u, .int a4, .int a5, px_u] [] ph (px_qI r ph')) {a0 : Nat} {a4 : Int32} {a5 : Int32} {ph : px_H} {r : Int32} {ph' : px_H} (h : f_M_list_203 F k110 a0 a4 a5 ph = some (r, ph')) : PW l g (d + 7) m_M_list 203 [.ref a0, px_u, px_u, px_u, .int a4, .int a5, px_u] [] ph (px_qI r ph') := by
  unfold f_M_list_203 at h
  refine px_ld rfl rfl rfl rfl rfl ?_
  obtain ⟨t1, h0, h⟩ := xs_some h
  obtain ⟨fs, e1, e2⟩ := xgR_some h0
  refine px_get rfl e1 e2 rfl ?_
  refine px_ld rfl rfl rfl rfl rfl ?_
  obtain ⟨t2, h0, h⟩ := xs_some h
  obtain ⟨fs, e1, e2⟩ := xgI_some h0
  refine px_get rfl e1 e2 rfl ?_
  refine px_ic (k := 16) rfl rfl rfl ?_
  refine px_alu rfl rfl rfl ?_
  refine px_ic (k := 32) rfl rfl rfl ?_
  obtain ⟨ph3, h0, h⟩ := xs_some h
  obtain ⟨N, f, e1, e2, e3⟩ := xsI_some h0
  subst e3
  refine px_bast rfl e1 rfl e2 rfl ?_
  refine px_ld rfl rfl rfl rfl rfl ?_
  obtain ⟨t4, h0, h⟩ := xs_some h
  obtain ⟨fs, e1, e2⟩ := xgR_some h0
  refine px_get rfl e1 e2 rfl ?_
  refine px_ld rfl rfl rfl rfl rfl ?_
  obtain ⟨t5, h0, h⟩ := xs_some h
  obtain ⟨fs, e1, e2⟩ := xgI_some h0
  refine px_get rfl e1 e2 rfl ?_
  refine px_ic (k := 17) rfl rfl rfl ?_
  refine px_alu rfl rfl rfl ?_
  refine px_ld rfl rfl rfl rfl rfl ?_
  refine px_ld rfl rfl rfl rfl rfl ?_
  refine px_ld rfl rfl rfl rfl rfl ?_
  obtain ⟨fs, h0, h⟩ := xs_some h
  have e1 := xo_some h0
  obtain ⟨t6, ph7, h0, h⟩ := xb_some h
  refine px_cV2 rfl rfl e1 rfl rfl rfl rfl rfl rfl rfl (r_M_letterOf h0 :) (fun _ _ q => nomatch q.2) (fun r ph' q => ?_)
  obtain ⟨rfl, q⟩ := q
  cases q
  refine px_alu rfl rfl rfl ?_
  obtain ⟨ph8, h0, h⟩ := xs_some h
  obtain ⟨N, f, e1, e2, e3⟩ := xsI_some h0
  subst e3
  refine px_bast rfl e1 rfl e2 rfl ?_
  refine px_ld rfl rfl rfl rfl rfl ?_
  obtain ⟨t9, h0, h⟩ := xs_some h
  obtain ⟨fs, e1, e2⟩ := xgR_some h0
  refine px_get rfl e1 e2 rfl ?_
  refine px_ld rfl rfl rfl rfl rfl ?_
  obtain ⟨t10, h0, h⟩ := xs_some h
  obtain ⟨fs, e1, e2⟩ := xgI_some h0
  refine px_get rfl e1 e2 rfl ?_
  refine px_ic (k := 18) rfl rfl rfl ?_
  refine px_alu rfl rfl rfl ?_
  refine px_ic (k := 32) rfl rfl rfl ?_
  obtain ⟨ph11, h0, h⟩ := xs_some h
  obtain ⟨N, f, e1, e2, e3⟩ := xsI_some h0
  subst e3
  refine px_bast rfl e1 rfl e2 rfl ?_
  refine px_ld rfl rfl rfl rfl rfl ?_
  refine px_alu rfl rfl rfl ?_
  obtain ⟨t12, h0, h⟩ := xs_some h
  obtain ⟨fs, e1, e2⟩ := xgI_some h0
  refine px_get rfl e1 e2 rfl ?_
  refine px_ic (k := 19) rfl rfl rfl ?_
  refine px_alu rfl rfl rfl ?_
  obtain ⟨ph13, h0, h⟩ := xs_some h
  obtain ⟨fs, e1, e2, e3⟩ := xpI_some h0
  subst e3
  refine px_put rfl e1 e2 trivial rfl ?_
  refine px_ld rfl rfl rfl rfl rfl ?_
  refine px_ld rfl rfl rfl rfl rfl ?_
  refine px_ld rfl rfl rfl rfl rfl ?_
  obtain ⟨fs, h0, h⟩ := xs_some h
  have e1 := xo_some h0
  obtain ⟨t14, ph15, h0, h⟩ := xb_some h
  refine px_cV2 rfl rfl e1 rfl rfl rfl rfl rfl rfl rfl (r_M_nameAt h0 :) (fun _ _ q => nomatch q.2) (fun r ph' q => ?_)
  obtain ⟨rfl, q⟩ := q
  cases q
  refine px_st (lv' := [_, _, _, _, _, _, _]) rfl rfl rfl rfl rfl rfl rfl ?_
  exact (r_M_list_273 @hk110 _ h :)
def f_M_list_165 (F : Nat) (k110 : Nat → Int32 → Int32 → px_H → Option (Int32 × px_H)) : Nat → Nat → Int32 → Int32 → Int32 → px_H → Option (Int32 × px_H)
  | 0, _, _, _, _, _ => none
  | n + 1, a0, a4, a5, a6, ph =>
    if (nI 16) ≤ a6 then
      f_M_list_203 F k110 a0 a4 a5 ph
    else
      (xo ph 12 a0).bind fun _ =>
      xb (f_M_where F a0 a4 a5 ph) fun t1 ph2 =>
      if t1 = 0 then
        (xgR ph2 12 3 a0).bind fun t3 =>
        (xgI ph2 12 4 a0).bind fun t4 =>
        (xsI ph2 0 t3 (t4 + a6) ((nI 32).toInt8.toInt32)).bind fun ph5 =>
        f_M_list_165 F k110 n a0 a4 a5 (a6 + nI 1) ph5
      else
        f_M_list_203 F k110 a0 a4 a5 ph2
theorem r_M_list_165 {l : Launch} {g : px_G} {d F : Nat} {k110 : Nat → Int32 → Int32 → px_H → Option (Int32 × px_H)} (hk110 : ∀ {a0 : Nat} {a4 : Int32} {a5 : Int32} {ph : px_H} {r : Int32} {ph' : px_H}, k110 a0 a4 a5 ph = some (r, ph') → PW l g (d + 7) m_M_list 110 [.ref a0, px_u, px_u, px_u, .int a4, .int a5, px_u] [] ph (px_qI r ph')) : ∀ (n : Nat) {a0 : Nat} {a4 : Int32} {a5 : Int32} {a6 : Int32} {ph : px_H} {r : Int32} {ph' : px_H}, f_M_list_165 F k110 n a0 a4 a5 a6 ph = some (r, ph') → PW l g (d + 7) m_M_list 165 [.ref a0, px_u, px_u, px_u, .int a4, .int a5, .int a6] [] ph (px_qI r ph') := by
  intro n
  induction n with
  | zero => intro _ _ _ _ _ _ _ h; cases h
  | succ n ih =>
    intro a0 a4 a5 a6 ph r ph' h
    unfold f_M_list_165 at h
    refine px_ld rfl rfl rfl rfl rfl ?_
    refine px_ic (k := 16) rfl rfl rfl ?_
    refine px_icge rfl (by decide) rfl (fun hc => ?_) (fun hc => ?_)
    · replace h := (if_pos hc).symm.trans h
      refine px_forget (n := 6) (lv' := [_, _, _, _, _, _, _]) rfl ?_
      exact (r_M_list_203 @hk110 h :)
    · replace h := (if_neg hc).symm.trans h
      refine px_ld rfl rfl rfl rfl rfl ?_
      refine px_ld rfl rfl rfl rfl rfl ?_
      refine px_ld rfl rfl rfl rfl rfl ?_
      obtain ⟨fs, h0, h⟩ := xs_some h
      have e1 := xo_some h0
      obtain ⟨t1, ph2, h0, h⟩ := xb_some h
      refine px_cV2 rfl rfl e1 rfl rfl rfl rfl rfl rfl rfl (r_M_where h0 :) (fun _ _ q => nomatch q.2) (fun r ph' q => ?_)
      obtain ⟨rfl, q⟩ := q
      cases q
      refine px_ifne rfl (by decide) rfl (fun hc => ?_) (fun hc => ?_)
      · replace h := (if_neg hc).symm.trans h
        refine px_forget (n := 6) (lv' := [_, _, _, _, _, _, _]) rfl ?_
        exact (r_M_list_203 @hk110 h :)
      · replace h := (if_pos hc).symm.trans h
        refine px_ld rfl rfl rfl rfl rfl ?_
        obtain ⟨t3, h0, h⟩ := xs_some h
        obtain ⟨fs, e1, e2⟩ := xgR_some h0
        refine px_get rfl e1 e2 rfl ?_
        refine px_ld rfl rfl rfl rfl rfl ?_
        obtain ⟨t4, h0, h⟩ := xs_some h
        obtain ⟨fs, e1, e2⟩ := xgI_some h0
        refine px_get rfl e1 e2 rfl ?_
        refine px_ld rfl rfl rfl rfl rfl ?_
        refine px_alu rfl rfl rfl ?_
        refine px_ic (k := 32) rfl rfl rfl ?_
        obtain ⟨ph5, h0, h⟩ := xs_some h
        obtain ⟨N, f, e1, e2, e3⟩ := xsI_some h0
        subst e3
        refine px_bast rfl e1 rfl e2 rfl ?_
        refine px_iinc (lv' := [_, _, _, _, _, _, _]) rfl rfl rfl rfl rfl rfl ?_
        refine px_goto rfl (by decide) rfl ?_
        exact (ih h :)
def f_M_list_162 (F : Nat) (k110 : Nat → Int32 → Int32 → px_H → Option (Int32 × px_H)) (a0 : Nat) (a4 : Int32) (a5 : Int32) (ph : px_H) : Option (Int32 × px_H) :=
  f_M_list_165 F k110 F a0 a4 a5 (nI 0) ph
theorem r_M_list_162 {l : Launch} {g : px_G} {d F : Nat} {k110 : Nat → Int32 → Int32 → px_H → Option (Int32 × px_H)} (hk110 : ∀ {a0 : Nat} {a4 : Int32} {a5 : Int32} {ph : px_H} {r : Int32} {ph' : px_H}, k110 a0 a4 a5 ph = some (r, ph') → PW l g (d + 7) m_M_list 110 [.ref a0, px_u, px_u, px_u, .int a4, .int a5, px_u] [] ph (px_qI r ph')) {a0 : Nat} {a4 : Int32} {a5 : Int32} {ph : px_H} {r : Int32} {ph' : px_H} (h : f_M_list_162 F k110 a0 a4 a5 ph = some (r, ph')) : PW l g (d + 7) m_M_list 162 [.ref a0, px_u, px_u, px_u, .int a4, .int a5, px_u] [] ph (px_qI r ph') := by
  unfold f_M_list_162 at h
  refine px_ic (k := 0) rfl rfl rfl ?_
  refine px_st (lv' := [_, _, _, _, _, _, _]) rfl rfl rfl rfl rfl rfl rfl ?_
  exact (r_M_list_165 @hk110 _ h :)
def f_M_list_110 (F : Nat) : Nat → Nat → Int32 → Int32 → px_H → Option (Int32 × px_H)
  | 0, _, _, _, _ => none
  | n + 1, a0, a4, a5, ph =>
    (xo ph 12 a0).bind fun _ =>
    xb (f_M_symbolMany F a0 a4 ph) fun t1 ph2 =>
    if t1 ≤ a5 then
      f_M_list_345 F a0 ph2
    else
      (xo ph2 12 a0).bind fun _ =>
      xb (f_M_bind F a0 a4 a5 ph2) fun t3 ph4 =>
      if t3 = 0 then
        f_M_list_339 F (f_M_list_110 F n) a0 a4 a5 ph4
      else
        (xo ph4 12 a0).bind fun _ =>
        xb (f_M_where F a0 a4 a5 ph4) fun t5 ph6 =>
        if t5 = 0 then
          f_M_list_162 F (f_M_list_110 F n) a0 a4 a5 ph6
        else
          (xgI ph6 12 4 a0).bind fun t7 =>
          (xo ph6 12 a0).bind fun _ =>
          xb (f_M_value F a0 a4 a5 ph6) fun t8 ph9 =>
          (xo ph9 12 a0).bind fun _ =>
          xb (f_M_sixteen F a0 t7 t8 ph9) fun _ ph10 =>
          f_M_list_162 F (f_M_list_110 F n) a0 a4 a5 ph10
theorem r_M_list_110 {l : Launch} {g : px_G} {d F : Nat} : ∀ (n : Nat) {a0 : Nat} {a4 : Int32} {a5 : Int32} {ph : px_H} {r : Int32} {ph' : px_H}, f_M_list_110 F n a0 a4 a5 ph = some (r, ph') → PW l g (d + 7) m_M_list 110 [.ref a0, px_u, px_u, px_u, .int a4, .int a5, px_u] [] ph (px_qI r ph') := by
  intro n
  induction n with
  | zero => intro _ _ _ _ _ _ h; cases h
  | succ n ih =>
    intro a0 a4 a5 ph r ph' h
    unfold f_M_list_110 at h
    refine px_ld rfl rfl rfl rfl rfl ?_
    refine px_ld rfl rfl rfl rfl rfl ?_
    refine px_ld rfl rfl rfl rfl rfl ?_
    obtain ⟨fs, h0, h⟩ := xs_some h
    have e1 := xo_some h0
    obtain ⟨t1, ph2, h0, h⟩ := xb_some h
    refine px_cV1 rfl rfl e1 rfl rfl rfl rfl rfl rfl rfl (r_M_symbolMany h0 :) (fun _ _ q => nomatch q.2) (fun r ph' q => ?_)
    obtain ⟨rfl, q⟩ := q
    cases q
    refine px_icge rfl (by decide) rfl (fun hc => ?_) (fun hc => ?_)
    · replace h := (if_pos hc).symm.trans h
      refine px_forget (n := 4) (lv' := [_, _, _, _, _, _, _]) rfl ?_
      refine px_forget (n := 5) (lv' := [_, _, _, _, _, _, _]) rfl ?_
      exact (r_M_list_345 h :)
    · replace h := (if_neg hc).symm.trans h
      refine px_ld rfl rfl rfl rfl rfl ?_
      refine px_ld rfl rfl rfl rfl rfl ?_
      refine px_ld rfl rfl rfl rfl rfl ?_
      obtain ⟨fs, h0, h⟩ := xs_some h
      have e1 := xo_some h0
      obtain ⟨t3, ph4, h0, h⟩ := xb_some h
      refine px_cV2 rfl rfl e1 rfl rfl rfl rfl rfl rfl rfl (r_M_bind h0 :) (fun _ _ q => nomatch q.2) (fun r ph' q => ?_)
      obtain ⟨rfl, q⟩ := q
      cases q
      refine px_ifne rfl (by decide) rfl (fun hc => ?_) (fun hc => ?_)
      · replace h := (if_neg hc).symm.trans h
        refine px_ld rfl rfl rfl rfl rfl ?_
        refine px_ld rfl rfl rfl rfl rfl ?_
        refine px_ld rfl rfl rfl rfl rfl ?_
        obtain ⟨fs, h0, h⟩ := xs_some h
        have e1 := xo_some h0
        obtain ⟨t5, ph6, h0, h⟩ := xb_some h
        refine px_cV2 rfl rfl e1 rfl rfl rfl rfl rfl rfl rfl (r_M_where h0 :) (fun _ _ q => nomatch q.2) (fun r ph' q => ?_)
        obtain ⟨rfl, q⟩ := q
        cases q
        refine px_ifeq rfl (by decide) rfl (fun hc => ?_) (fun hc => ?_)
        · replace h := (if_pos hc).symm.trans h
          exact (r_M_list_162 @ih h :)
        · replace h := (if_neg hc).symm.trans h
          refine px_ld rfl rfl rfl rfl rfl ?_
          refine px_ld rfl rfl rfl rfl rfl ?_
          obtain ⟨t7, h0, h⟩ := xs_some h
          obtain ⟨fs, e1, e2⟩ := xgI_some h0
          refine px_get rfl e1 e2 rfl ?_
          refine px_ld rfl rfl rfl rfl rfl ?_
          refine px_ld rfl rfl rfl rfl rfl ?_
          refine px_ld rfl rfl rfl rfl rfl ?_
          obtain ⟨fs, h0, h⟩ := xs_some h
          have e1 := xo_some h0
          obtain ⟨t8, ph9, h0, h⟩ := xb_some h
          refine px_cV2 rfl rfl e1 rfl rfl rfl rfl rfl rfl rfl (r_M_value h0 :) (fun _ _ q => nomatch q.2) (fun r ph' q => ?_)
          obtain ⟨rfl, q⟩ := q
          cases q
          obtain ⟨fs, h0, h⟩ := xs_some h
          have e1 := xo_some h0
          obtain ⟨u0, ph10, h0, h⟩ := xb_some h
          refine px_cV2 rfl rfl e1 rfl rfl rfl rfl rfl rfl rfl (r_M_sixteen h0 :) (fun _ _ q => nomatch q.2) (fun r ph' q => ?_)
          obtain ⟨rfl, q⟩ := q
          cases q
          exact (r_M_list_162 @ih h :)
      · replace h := (if_pos hc).symm.trans h
        refine px_goto rfl (by decide) rfl ?_
        exact (r_M_list_339 @ih h :)
def f_M_list_80 (F : Nat) (a0 : Nat) (a1 : Int32) (a2 : Int32) (s0 : Nat) (s1 : Int32) (ph : px_H) : Option (Int32 × px_H) :=
  (xo ph 12 s0).bind fun _ =>
  xb (f_M_throwing F s0 s1 (nI 0) ph) fun t1 ph2 =>
  if t1 = 0 then
    (xgR ph2 12 9 a0).bind fun t3 =>
    (xaI ph2 1 t3 (((nI 8) * a1) + a2)).bind fun t4 =>
    (xpI ph2 12 4 a0 (nI 0)).bind fun ph5 =>
    f_M_list_110 F F a0 t4 (nI 1) ph5
  else
    some (nI 0, ph2)
theorem r_M_list_80 {l : Launch} {g : px_G} {d F : Nat} {a0 : Nat} {a1 : Int32} {a2 : Int32} {s0 : Nat} {s1 : Int32} {ph : px_H} {r : Int32} {ph' : px_H} (h : f_M_list_80 F a0 a1 a2 s0 s1 ph = some (r, ph')) : PW l g (d + 7) m_M_list 80 [.ref a0, .int a1, .int a2, px_u, px_u, px_u, px_u] [.int s1, .ref s0] ph (px_qI r ph') := by
  unfold f_M_list_80 at h
  refine px_ic (k := 0) rfl rfl rfl ?_
  obtain ⟨fs, h0, h⟩ := xs_some h
  have e1 := xo_some h0
  obtain ⟨t1, ph2, h0, h⟩ := xb_some h
  refine px_cV2 rfl rfl e1 rfl rfl rfl rfl rfl rfl rfl (r_M_throwing h0 :) (fun _ _ q => nomatch q.2) (fun r ph' q => ?_)
  obtain ⟨rfl, q⟩ := q
  cases q
  refine px_ifeq rfl (by decide) rfl (fun hc => ?_) (fun hc => ?_)
  · replace h := (if_pos hc).symm.trans h
    refine px_ld rfl rfl rfl rfl rfl ?_
    obtain ⟨t3, h0, h⟩ := xs_some h
    obtain ⟨fs, e1, e2⟩ := xgR_some h0
    refine px_get rfl e1 e2 rfl ?_
    refine px_ic (k := 8) rfl rfl rfl ?_
    refine px_ld rfl rfl rfl rfl rfl ?_
    refine px_alu rfl rfl rfl ?_
    refine px_ld rfl rfl rfl rfl rfl ?_
    refine px_alu rfl rfl rfl ?_
    obtain ⟨t4, h0, h⟩ := xs_some h
    obtain ⟨N, f, e1, e2, e3⟩ := xaI_some h0
    subst e3
    refine px_iald rfl e1 rfl e2 rfl ?_
    refine px_st (lv' := [_, _, _, _, _, _, _]) rfl rfl rfl rfl rfl rfl rfl ?_
    refine px_ld rfl rfl rfl rfl rfl ?_
    refine px_ic (k := 0) rfl rfl rfl ?_
    obtain ⟨ph5, h0, h⟩ := xs_some h
    obtain ⟨fs, e1, e2, e3⟩ := xpI_some h0
    subst e3
    refine px_put rfl e1 e2 trivial rfl ?_
    refine px_ic (k := 1) rfl rfl rfl ?_
    refine px_st (lv' := [_, _, _, _, _, _, _]) rfl rfl rfl rfl rfl rfl rfl ?_
    refine px_forget (n := 1) (lv' := [_, _, _, _, _, _, _]) rfl ?_
    refine px_forget (n := 2) (lv' := [_, _, _, _, _, _, _]) rfl ?_
    exact (r_M_list_110 _ h :)
  · replace h := (if_neg hc).symm.trans h
    refine px_ic (k := 0) rfl rfl rfl ?_
    cases h
    exact px_iret rfl (Or.inl rfl) rfl ⟨rfl, rfl⟩
def f_M_list_75 (F : Nat) (a0 : Nat) (a1 : Int32) (a2 : Int32) (s0 : Nat) (ph : px_H) : Option (Int32 × px_H) :=
  f_M_list_80 F a0 a1 a2 s0 (nI 1) ph
theorem r_M_list_75 {l : Launch} {g : px_G} {d F : Nat} {a0 : Nat} {a1 : Int32} {a2 : Int32} {s0 : Nat} {ph : px_H} {r : Int32} {ph' : px_H} (h : f_M_list_75 F a0 a1 a2 s0 ph = some (r, ph')) : PW l g (d + 7) m_M_list 75 [.ref a0, .int a1, .int a2, px_u, px_u, px_u, px_u] [.ref s0] ph (px_qI r ph') := by
  unfold f_M_list_75 at h
  refine px_ic (k := 1) rfl rfl rfl ?_
  refine px_goto rfl (by decide) rfl ?_
  exact (r_M_list_80 h :)
def f_M_list_71 (F : Nat) (a0 : Nat) (a1 : Int32) (a2 : Int32) (s0 : Nat) (s1 : Nat) (s2 : Int32) (ph : px_H) : Option (Int32 × px_H) :=
  (xaI ph 3 s1 s2).bind fun t1 =>
  if t1 = 0 then
    f_M_list_80 F a0 a1 a2 s0 (nI 0) ph
  else
    f_M_list_75 F a0 a1 a2 s0 ph
theorem r_M_list_71 {l : Launch} {g : px_G} {d F : Nat} {a0 : Nat} {a1 : Int32} {a2 : Int32} {s0 : Nat} {s1 : Nat} {s2 : Int32} {ph : px_H} {r : Int32} {ph' : px_H} (h : f_M_list_71 F a0 a1 a2 s0 s1 s2 ph = some (r, ph')) : PW l g (d + 7) m_M_list 71 [.ref a0, .int a1, .int a2, px_u, px_u, px_u, px_u] [.int s2, .ref s1, .ref s0] ph (px_qI r ph') := by
  unfold f_M_list_71 at h
  obtain ⟨t1, h0, h⟩ := xs_some h
  obtain ⟨N, f, e1, e2, e3⟩ := xaI_some h0
  subst e3
  refine px_zald rfl e1 rfl e2 rfl ?_
  refine px_ifeq rfl (by decide) rfl (fun hc => ?_) (fun hc => ?_)
  · replace h := (if_pos hc).symm.trans h
    refine px_ic (k := 0) rfl rfl rfl ?_
    exact (r_M_list_80 h :)
  · replace h := (if_neg hc).symm.trans h
    exact (r_M_list_75 h :)
def f_M_list_47 (F : Nat) (a0 : Nat) (a1 : Int32) (a2 : Int32) (s0 : Int32) (ph : px_H) : Option (Int32 × px_H) :=
  if s0 = 0 then
    (xgR ph 12 12 a0).bind fun t1 =>
    if s0 = 0 then
      f_M_list_71 F a0 a1 a2 a0 t1 (((nI 8) * a1) + a2) ph
    else
      f_M_list_71 F a0 a1 a2 a0 t1 (nI 0) ph
  else
    f_M_list_75 F a0 a1 a2 a0 ph
theorem r_M_list_47 {l : Launch} {g : px_G} {d F : Nat} {a0 : Nat} {a1 : Int32} {a2 : Int32} {s0 : Int32} {ph : px_H} {r : Int32} {ph' : px_H} (h : f_M_list_47 F a0 a1 a2 s0 ph = some (r, ph')) : PW l g (d + 7) m_M_list 47 [.ref a0, .int a1, .int a2, px_u, px_u, px_u, px_u] [.int s0] ph (px_qI r ph') := by
  unfold f_M_list_47 at h
  refine px_st (lv' := [_, _, _, _, _, _, _]) rfl rfl rfl rfl rfl rfl rfl ?_
  refine px_ld rfl rfl rfl rfl rfl ?_
  refine px_ld rfl rfl rfl rfl rfl ?_
  refine px_ifne rfl (by decide) rfl (fun hc => ?_) (fun hc => ?_)
  · replace h := (if_neg hc).symm.trans h
    refine px_forget (n := 3) (lv' := [_, _, _, _, _, _, _]) rfl ?_
    exact (r_M_list_75 h :)
  · replace h := (if_pos hc).symm.trans h
    refine px_ld rfl rfl rfl rfl rfl ?_
    obtain ⟨t1, h0, h⟩ := xs_some h
    obtain ⟨fs, e1, e2⟩ := xgR_some h0
    refine px_get rfl e1 e2 rfl ?_
    refine px_ld rfl rfl rfl rfl rfl ?_
    refine px_ifeq rfl (by decide) rfl (fun hc => ?_) (fun hc => ?_)
    · replace h := (if_pos hc).symm.trans h
      refine px_ic (k := 8) rfl rfl rfl ?_
      refine px_ld rfl rfl rfl rfl rfl ?_
      refine px_alu rfl rfl rfl ?_
      refine px_ld rfl rfl rfl rfl rfl ?_
      refine px_alu rfl rfl rfl ?_
      refine px_forget (n := 3) (lv' := [_, _, _, _, _, _, _]) rfl ?_
      exact (r_M_list_71 h :)
    · replace h := (if_neg hc).symm.trans h
      refine px_ic (k := 0) rfl rfl rfl ?_
      refine px_goto rfl (by decide) rfl ?_
      refine px_forget (n := 3) (lv' := [_, _, _, _, _, _, _]) rfl ?_
      exact (r_M_list_71 h :)
def f_M_list_42 (F : Nat) (a0 : Nat) (a1 : Int32) (a2 : Int32) (ph : px_H) : Option (Int32 × px_H) :=
  f_M_list_47 F a0 a1 a2 (nI 1) ph
theorem r_M_list_42 {l : Launch} {g : px_G} {d F : Nat} {a0 : Nat} {a1 : Int32} {a2 : Int32} {ph : px_H} {r : Int32} {ph' : px_H} (h : f_M_list_42 F a0 a1 a2 ph = some (r, ph')) : PW l g (d + 7) m_M_list 42 [.ref a0, .int a1, .int a2, px_u, px_u, px_u, px_u] [] ph (px_qI r ph') := by
  unfold f_M_list_42 at h
  refine px_ic (k := 1) rfl rfl rfl ?_
  refine px_goto rfl (by decide) rfl ?_
  exact (r_M_list_47 h :)
def f_M_list_38 (F : Nat) (a0 : Nat) (a1 : Int32) (a2 : Int32) (s0 : Int32) (s1 : Nat) (s2 : Int32) (ph : px_H) : Option (Int32 × px_H) :=
  (xaI ph 1 s1 s2).bind fun t1 =>
  if s0 < t1 then
    f_M_list_47 F a0 a1 a2 (nI 0) ph
  else
    f_M_list_42 F a0 a1 a2 ph
theorem r_M_list_38 {l : Launch} {g : px_G} {d F : Nat} {a0 : Nat} {a1 : Int32} {a2 : Int32} {s0 : Int32} {s1 : Nat} {s2 : Int32} {ph : px_H} {r : Int32} {ph' : px_H} (h : f_M_list_38 F a0 a1 a2 s0 s1 s2 ph = some (r, ph')) : PW l g (d + 7) m_M_list 38 [.ref a0, .int a1, .int a2, px_u, px_u, px_u, px_u] [.int s2, .ref s1, .int s0] ph (px_qI r ph') := by
  unfold f_M_list_38 at h
  obtain ⟨t1, h0, h⟩ := xs_some h
  obtain ⟨N, f, e1, e2, e3⟩ := xaI_some h0
  subst e3
  refine px_iald rfl e1 rfl e2 rfl ?_
  refine px_iclt rfl (by decide) rfl (fun hc => ?_) (fun hc => ?_)
  · replace h := (if_pos hc).symm.trans h
    refine px_ic (k := 0) rfl rfl rfl ?_
    exact (r_M_list_47 h :)
  · replace h := (if_neg hc).symm.trans h
    exact (r_M_list_42 h :)
def f_M_list_37 (F : Nat) (a0 : Nat) (a1 : Int32) (a2 : Int32) (s0 : Int32) (s1 : Nat) (ph : px_H) : Option (Int32 × px_H) :=
  f_M_list_38 F a0 a1 a2 s0 s1 (nI 0) ph
theorem r_M_list_37 {l : Launch} {g : px_G} {d F : Nat} {a0 : Nat} {a1 : Int32} {a2 : Int32} {s0 : Int32} {s1 : Nat} {ph : px_H} {r : Int32} {ph' : px_H} (h : f_M_list_37 F a0 a1 a2 s0 s1 ph = some (r, ph')) : PW l g (d + 7) m_M_list 37 [.ref a0, .int a1, .int a2, px_u, px_u, px_u, px_u] [.ref s1, .int s0] ph (px_qI r ph') := by
  unfold f_M_list_37 at h
  refine px_ic (k := 0) rfl rfl rfl ?_
  exact (r_M_list_38 h :)
def f_M_list (F : Nat) (a0 : Nat) (a1 : Int32) (a2 : Int32) (ph : px_H) : Option (Int32 × px_H) :=
  if a1 < 0 then
    f_M_list_42 F a0 a1 a2 ph
  else
    (xgI ph 12 5 a0).bind fun t1 =>
    if t1 ≤ a1 then
      f_M_list_42 F a0 a1 a2 ph
    else
      if a2 < 0 then
        f_M_list_42 F a0 a1 a2 ph
      else
        (xgR ph 12 8 a0).bind fun t2 =>
        if a1 < 0 then
          f_M_list_37 F a0 a1 a2 a2 t2 ph
        else
          (xgI ph 12 5 a0).bind fun t3 =>
          if t3 ≤ a1 then
            f_M_list_37 F a0 a1 a2 a2 t2 ph
          else
            f_M_list_38 F a0 a1 a2 a2 t2 a1 ph
theorem r_M_list {l : Launch} {g : px_G} {d F : Nat} {a0 : Nat} {a1 : Int32} {a2 : Int32} {ph : px_H} {r : Int32} {ph' : px_H} (h : f_M_list F a0 a1 a2 ph = some (r, ph')) : PW l g (d + 7) m_M_list 0 [.ref a0, .int a1, .int a2, px_u, px_u, px_u, px_u] [] ph (px_qI r ph') := by
  unfold f_M_list at h
  refine px_ld rfl rfl rfl rfl rfl ?_
  refine px_iflt rfl (by decide) rfl (fun hc => ?_) (fun hc => ?_)
  · replace h := (if_pos hc).symm.trans h
    exact (r_M_list_42 h :)
  · replace h := (if_neg hc).symm.trans h
    refine px_ld rfl rfl rfl rfl rfl ?_
    refine px_ld rfl rfl rfl rfl rfl ?_
    obtain ⟨t1, h0, h⟩ := xs_some h
    obtain ⟨fs, e1, e2⟩ := xgI_some h0
    refine px_get rfl e1 e2 rfl ?_
    refine px_icge rfl (by decide) rfl (fun hc => ?_) (fun hc => ?_)
    · replace h := (if_pos hc).symm.trans h
      exact (r_M_list_42 h :)
    · replace h := (if_neg hc).symm.trans h
      refine px_ld rfl rfl rfl rfl rfl ?_
      refine px_iflt rfl (by decide) rfl (fun hc => ?_) (fun hc => ?_)
      · replace h := (if_pos hc).symm.trans h
        exact (r_M_list_42 h :)
      · replace h := (if_neg hc).symm.trans h
        refine px_ld rfl rfl rfl rfl rfl ?_
        refine px_ld rfl rfl rfl rfl rfl ?_
        obtain ⟨t2, h0, h⟩ := xs_some h
        obtain ⟨fs, e1, e2⟩ := xgR_some h0
        refine px_get rfl e1 e2 rfl ?_
        refine px_ld rfl rfl rfl rfl rfl ?_
        refine px_iflt rfl (by decide) rfl (fun hc => ?_) (fun hc => ?_)
        · replace h := (if_pos hc).symm.trans h
          exact (r_M_list_37 h :)
        · replace h := (if_neg hc).symm.trans h
          refine px_ld rfl rfl rfl rfl rfl ?_
          refine px_ld rfl rfl rfl rfl rfl ?_
          obtain ⟨t3, h0, h⟩ := xs_some h
          obtain ⟨fs, e1, e2⟩ := xgI_some h0
          refine px_get rfl e1 e2 rfl ?_
          refine px_icge rfl (by decide) rfl (fun hc => ?_) (fun hc => ?_)
          · replace h := (if_pos hc).symm.trans h
            exact (r_M_list_37 h :)
          · replace h := (if_neg hc).symm.trans h
            refine px_ld rfl rfl rfl rfl rfl ?_
            refine px_goto rfl (by decide) rfl ?_
            exact (r_M_list_38 h :)
def f_M_wide_43 (F : Nat) (s0 : Int32) (ph : px_H) : Option (Int32 × px_H) :=
  some (s0, ph)
theorem r_M_wide_43 {l : Launch} {g : px_G} {d F : Nat} {s0 : Int32} {ph : px_H} {r : Int32} {ph' : px_H} (h : f_M_wide_43 F s0 ph = some (r, ph')) : PW l g (d + 0) m_M_wide 43 [px_u] [.int s0] ph (px_qI r ph') := by
  unfold f_M_wide_43 at h
  cases h
  exact px_iret rfl (Or.inl rfl) rfl ⟨rfl, rfl⟩
def f_M_wide (F : Nat) (a0 : Int32) (ph : px_H) : Option (Int32 × px_H) :=
  if (nI 10) ≤ a0 then
    if (nI 100) ≤ a0 then
      if (nI 1000) ≤ a0 then
        if (nI 10000) ≤ a0 then
          f_M_wide_43 F (nI 5) ph
        else
          f_M_wide_43 F (nI 4) ph
      else
        f_M_wide_43 F (nI 3) ph
    else
      f_M_wide_43 F (nI 2) ph
  else
    f_M_wide_43 F (nI 1) ph
theorem r_M_wide {l : Launch} {g : px_G} {d F : Nat} {a0 : Int32} {ph : px_H} {r : Int32} {ph' : px_H} (h : f_M_wide F a0 ph = some (r, ph')) : PW l g (d + 0) m_M_wide 0 [.int a0] [] ph (px_qI r ph') := by
  unfold f_M_wide at h
  refine px_ld rfl rfl rfl rfl rfl ?_
  refine px_ic (k := 10) rfl rfl rfl ?_
  refine px_icge rfl rfl rfl (fun hc => ?_) (fun hc => ?_)
  · replace h := (if_pos hc).symm.trans h
    refine px_ld rfl rfl rfl rfl rfl ?_
    refine px_ic (k := 100) rfl rfl rfl ?_
    refine px_icge rfl rfl rfl (fun hc => ?_) (fun hc => ?_)
    · replace h := (if_pos hc).symm.trans h
      refine px_ld rfl rfl rfl rfl rfl ?_
      refine px_ic (k := 1000) rfl rfl rfl ?_
      refine px_icge rfl rfl rfl (fun hc => ?_) (fun hc => ?_)
      · replace h := (if_pos hc).symm.trans h
        refine px_ld rfl rfl rfl rfl rfl ?_
        refine px_ic (k := 10000) rfl rfl rfl ?_
        refine px_icge rfl rfl rfl (fun hc => ?_) (fun hc => ?_)
        · replace h := (if_pos hc).symm.trans h
          refine px_ic (k := 5) rfl rfl rfl ?_
          refine px_forget (n := 0) (lv' := [_]) rfl ?_
          exact (r_M_wide_43 h :)
        · replace h := (if_neg hc).symm.trans h
          refine px_ic (k := 4) rfl rfl rfl ?_
          refine px_goto rfl rfl rfl ?_
          refine px_forget (n := 0) (lv' := [_]) rfl ?_
          exact (r_M_wide_43 h :)
      · replace h := (if_neg hc).symm.trans h
        refine px_ic (k := 3) rfl rfl rfl ?_
        refine px_goto rfl rfl rfl ?_
        refine px_forget (n := 0) (lv' := [_]) rfl ?_
        exact (r_M_wide_43 h :)
    · replace h := (if_neg hc).symm.trans h
      refine px_ic (k := 2) rfl rfl rfl ?_
      refine px_goto rfl rfl rfl ?_
      refine px_forget (n := 0) (lv' := [_]) rfl ?_
      exact (r_M_wide_43 h :)
  · replace h := (if_neg hc).symm.trans h
    refine px_ic (k := 1) rfl rfl rfl ?_
    refine px_goto rfl rfl rfl ?_
    refine px_forget (n := 0) (lv' := [_]) rfl ?_
    exact (r_M_wide_43 h :)
def f_M_sayNumber (F : Nat) (a0 : Nat) (a1 : Int32) (a2 : Int32) (ph : px_H) : Option (Unit × px_H) :=
  (xgI ph 12 4 a0).bind fun t1 =>
  (xo ph 12 a0).bind fun _ =>
  xb (f_M_digits F a0 t1 a1 ph) fun _ ph2 =>
  (xgI ph2 12 4 a0).bind fun t3 =>
  xb (f_M_wide F a1 ph2) fun t4 ph5 =>
  (xpI ph5 12 4 a0 (t3 + t4)).bind fun ph6 =>
  (xgR ph6 12 3 a0).bind fun t7 =>
  (xgI ph6 12 4 a0).bind fun t8 =>
  (xsI ph6 0 t7 t8 (a2.toInt8.toInt32.toInt8.toInt32)).bind fun ph9 =>
  (xgI ph9 12 4 a0).bind fun t10 =>
  (xpI ph9 12 4 a0 (t10 + (nI 1))).bind fun ph11 =>
  some ((), ph11)
theorem r_M_sayNumber {l : Launch} {g : px_G} {d F : Nat} {a0 : Nat} {a1 : Int32} {a2 : Int32} {ph : px_H} {r : Unit} {ph' : px_H} (h : f_M_sayNumber F a0 a1 a2 ph = some (r, ph')) : PW l g (d + 1) m_M_sayNumber 0 [.ref a0, .int a1, .int a2] [] ph (px_qV r ph') := by
  unfold f_M_sayNumber at h
  refine px_ld rfl rfl rfl rfl rfl ?_
  refine px_ld rfl rfl rfl rfl rfl ?_
  obtain ⟨t1, h0, h⟩ := xs_some h
  obtain ⟨fs, e1, e2⟩ := xgI_some h0
  refine px_get rfl e1 e2 rfl ?_
  refine px_ld rfl rfl rfl rfl rfl ?_
  obtain ⟨fs, h0, h⟩ := xs_some h
  have e1 := xo_some h0
  obtain ⟨u0, ph2, h0, h⟩ := xb_some h
  refine px_cV2 rfl rfl e1 rfl rfl rfl rfl rfl rfl rfl (r_M_digits h0 :) (fun _ _ q => nomatch q.2) (fun r ph' q => ?_)
  obtain ⟨rfl, q⟩ := q
  cases q
  refine px_ld rfl rfl rfl rfl rfl ?_
  refine px_alu rfl rfl rfl ?_
  obtain ⟨t3, h0, h⟩ := xs_some h
  obtain ⟨fs, e1, e2⟩ := xgI_some h0
  refine px_get rfl e1 e2 rfl ?_
  refine px_ld rfl rfl rfl rfl rfl ?_
  obtain ⟨t4, ph5, h0, h⟩ := xb_some h
  refine px_cS1 rfl rfl rfl rfl rfl rfl rfl (r_M_wide h0 :) (fun _ _ q => nomatch q.2) (fun r ph' q => ?_)
  obtain ⟨rfl, q⟩ := q
  cases q
  refine px_alu rfl rfl rfl ?_
  obtain ⟨ph6, h0, h⟩ := xs_some h
  obtain ⟨fs, e1, e2, e3⟩ := xpI_some h0
  subst e3
  refine px_put rfl e1 e2 trivial rfl ?_
  refine px_ld rfl rfl rfl rfl rfl ?_
  obtain ⟨t7, h0, h⟩ := xs_some h
  obtain ⟨fs, e1, e2⟩ := xgR_some h0
  refine px_get rfl e1 e2 rfl ?_
  refine px_ld rfl rfl rfl rfl rfl ?_
  obtain ⟨t8, h0, h⟩ := xs_some h
  obtain ⟨fs, e1, e2⟩ := xgI_some h0
  refine px_get rfl e1 e2 rfl ?_
  refine px_ld rfl rfl rfl rfl rfl ?_
  refine px_alu rfl rfl rfl ?_
  obtain ⟨ph9, h0, h⟩ := xs_some h
  obtain ⟨N, f, e1, e2, e3⟩ := xsI_some h0
  subst e3
  refine px_bast rfl e1 rfl e2 rfl ?_
  refine px_ld rfl rfl rfl rfl rfl ?_
  refine px_alu rfl rfl rfl ?_
  obtain ⟨t10, h0, h⟩ := xs_some h
  obtain ⟨fs, e1, e2⟩ := xgI_some h0
  refine px_get rfl e1 e2 rfl ?_
  refine px_ic (k := 1) rfl rfl rfl ?_
  refine px_alu rfl rfl rfl ?_
  obtain ⟨ph11, h0, h⟩ := xs_some h
  obtain ⟨fs, e1, e2, e3⟩ := xpI_some h0
  subst e3
  refine px_put rfl e1 e2 trivial rfl ?_
  cases h
  exact px_vret rfl rfl rfl ⟨rfl, rfl⟩
def f_M_map_366 (F : Nat) (a0 : Nat) (ph : px_H) : Option (Int32 × px_H) :=
  (xgI ph 12 4 a0).bind fun t1 =>
  some (t1, ph)
theorem r_M_map_366 {l : Launch} {g : px_G} {d F : Nat} {a0 : Nat} {ph : px_H} {r : Int32} {ph' : px_H} (h : f_M_map_366 F a0 ph = some (r, ph')) : PW l g (d + 2) m_M_map 366 [.ref a0, px_u, px_u, px_u, px_u] [] ph (px_qI r ph') := by
  unfold f_M_map_366 at h
  refine px_ld rfl rfl rfl rfl rfl ?_
  obtain ⟨t1, h0, h⟩ := xs_some h
  obtain ⟨fs, e1, e2⟩ := xgI_some h0
  refine px_get rfl e1 e2 rfl ?_
  cases h
  exact px_iret rfl (Or.inl rfl) rfl ⟨rfl, rfl⟩
def f_M_map_339 (F : Nat) (k234 : Nat → Int32 → px_H → Option (Int32 × px_H)) (a0 : Nat) (a2 : Int32) (ph : px_H) : Option (Int32 × px_H) :=
  (xgR ph 12 3 a0).bind fun t1 =>
  (xgI ph 12 4 a0).bind fun t2 =>
  (xsI ph 0 t1 t2 ((nI 10).toInt8.toInt32)).bind fun ph3 =>
  (xgI ph3 12 4 a0).bind fun t4 =>
  (xpI ph3 12 4 a0 (t4 + (nI 1))).bind fun ph5 =>
  k234 a0 (a2 + nI 1) ph5
theorem r_M_map_339 {l : Launch} {g : px_G} {d F : Nat} {k234 : Nat → Int32 → px_H → Option (Int32 × px_H)} (hk234 : ∀ {a0 : Nat} {a2 : Int32} {ph : px_H} {r : Int32} {ph' : px_H}, k234 a0 a2 ph = some (r, ph') → PW l g (d + 2) m_M_map 234 [.ref a0, px_u, .int a2, px_u, px_u] [] ph (px_qI r ph')) {a0 : Nat} {a2 : Int32} {ph : px_H} {r : Int32} {ph' : px_H} (h : f_M_map_339 F k234 a0 a2 ph = some (r, ph')) : PW l g (d + 2) m_M_map 339 [.ref a0, px_u, .int a2, px_u, px_u] [] ph (px_qI r ph') := by
  unfold f_M_map_339 at h
  refine px_ld rfl rfl rfl rfl rfl ?_
  obtain ⟨t1, h0, h⟩ := xs_some h
  obtain ⟨fs, e1, e2⟩ := xgR_some h0
  refine px_get rfl e1 e2 rfl ?_
  refine px_ld rfl rfl rfl rfl rfl ?_
  obtain ⟨t2, h0, h⟩ := xs_some h
  obtain ⟨fs, e1, e2⟩ := xgI_some h0
  refine px_get rfl e1 e2 rfl ?_
  refine px_ic (k := 10) rfl rfl rfl ?_
  obtain ⟨ph3, h0, h⟩ := xs_some h
  obtain ⟨N, f, e1, e2, e3⟩ := xsI_some h0
  subst e3
  refine px_bast rfl e1 rfl e2 rfl ?_
  refine px_ld rfl rfl rfl rfl rfl ?_
  refine px_alu rfl rfl rfl ?_
  obtain ⟨t4, h0, h⟩ := xs_some h
  obtain ⟨fs, e1, e2⟩ := xgI_some h0
  refine px_get rfl e1 e2 rfl ?_
  refine px_ic (k := 1) rfl rfl rfl ?_
  refine px_alu rfl rfl rfl ?_
  obtain ⟨ph5, h0, h⟩ := xs_some h
  obtain ⟨fs, e1, e2, e3⟩ := xpI_some h0
  subst e3
  refine px_put rfl e1 e2 trivial rfl ?_
  refine px_iinc (lv' := [_, _, _, _, _]) rfl rfl rfl rfl rfl rfl ?_
  refine px_goto rfl (by decide) rfl ?_
  exact (hk234 h :)
def f_M_map_291 (F : Nat) (k234 : Nat → Int32 → px_H → Option (Int32 × px_H)) : Nat → Nat → Int32 → Int32 → Int32 → px_H → Option (Int32 × px_H)
  | 0, _, _, _, _, _ => none
  | n + 1, a0, a2, a3, a4, ph =>
    (xgR ph 12 22 a0).bind fun t1 =>
    (xaI ph 1 t1 a3).bind fun t2 =>
    if t2 ≤ a4 then
      f_M_map_339 F k234 a0 a2 ph
    else
      (xgR ph 12 3 a0).bind fun t3 =>
      (xgI ph 12 4 a0).bind fun t4 =>
      (xgR ph 12 21 a0).bind fun t5 =>
      (xaI ph 0 t5 (((nI 20) * a3) + a4)).bind fun t6 =>
      (xsI ph 0 t3 t4 (t6.toInt8.toInt32)).bind fun ph7 =>
      (xgI ph7 12 4 a0).bind fun t8 =>
      (xpI ph7 12 4 a0 (t8 + (nI 1))).bind fun ph9 =>
      f_M_map_291 F k234 n a0 a2 a3 (a4 + nI 1) ph9
theorem r_M_map_291 {l : Launch} {g : px_G} {d F : Nat} {k234 : Nat → Int32 → px_H → Option (Int32 × px_H)} (hk234 : ∀ {a0 : Nat} {a2 : Int32} {ph : px_H} {r : Int32} {ph' : px_H}, k234 a0 a2 ph = some (r, ph') → PW l g (d + 2) m_M_map 234 [.ref a0, px_u, .int a2, px_u, px_u] [] ph (px_qI r ph')) : ∀ (n : Nat) {a0 : Nat} {a2 : Int32} {a3 : Int32} {a4 : Int32} {ph : px_H} {r : Int32} {ph' : px_H}, f_M_map_291 F k234 n a0 a2 a3 a4 ph = some (r, ph') → PW l g (d + 2) m_M_map 291 [.ref a0, px_u, .int a2, .int a3, .int a4] [] ph (px_qI r ph') := by
  intro n
  induction n with
  | zero => intro _ _ _ _ _ _ _ h; cases h
  | succ n ih =>
    intro a0 a2 a3 a4 ph r ph' h
    unfold f_M_map_291 at h
    refine px_ld rfl rfl rfl rfl rfl ?_
    refine px_ld rfl rfl rfl rfl rfl ?_
    obtain ⟨t1, h0, h⟩ := xs_some h
    obtain ⟨fs, e1, e2⟩ := xgR_some h0
    refine px_get rfl e1 e2 rfl ?_
    refine px_ld rfl rfl rfl rfl rfl ?_
    obtain ⟨t2, h0, h⟩ := xs_some h
    obtain ⟨N, f, e1, e2, e3⟩ := xaI_some h0
    subst e3
    refine px_iald rfl e1 rfl e2 rfl ?_
    refine px_icge rfl (by decide) rfl (fun hc => ?_) (fun hc => ?_)
    · replace h := (if_pos hc).symm.trans h
      refine px_forget (n := 3) (lv' := [_, _, _, _, _]) rfl ?_
      refine px_forget (n := 4) (lv' := [_, _, _, _, _]) rfl ?_
      exact (r_M_map_339 @hk234 h :)
    · replace h := (if_neg hc).symm.trans h
      refine px_ld rfl rfl rfl rfl rfl ?_
      obtain ⟨t3, h0, h⟩ := xs_some h
      obtain ⟨fs, e1, e2⟩ := xgR_some h0
      refine px_get rfl e1 e2 rfl ?_
      refine px_ld rfl rfl rfl rfl rfl ?_
      obtain ⟨t4, h0, h⟩ := xs_some h
      obtain ⟨fs, e1, e2⟩ := xgI_some h0
      refine px_get rfl e1 e2 rfl ?_
      refine px_ld rfl rfl rfl rfl rfl ?_
      obtain ⟨t5, h0, h⟩ := xs_some h
      obtain ⟨fs, e1, e2⟩ := xgR_some h0
      refine px_get rfl e1 e2 rfl ?_
      refine px_ic (k := 20) rfl rfl rfl ?_
      refine px_ld rfl rfl rfl rfl rfl ?_
      refine px_alu rfl rfl rfl ?_
      refine px_ld rfl rfl rfl rfl rfl ?_
      refine px_alu rfl rfl rfl ?_
      obtain ⟨t6, h0, h⟩ := xs_some h
      obtain ⟨N, f, e1, e2, e3⟩ := xaI_some h0
      subst e3
      refine px_bald rfl e1 rfl e2 rfl ?_
      obtain ⟨ph7, h0, h⟩ := xs_some h
      obtain ⟨N, f, e1, e2, e3⟩ := xsI_some h0
      subst e3
      refine px_bast rfl e1 rfl e2 rfl ?_
      refine px_ld rfl rfl rfl rfl rfl ?_
      refine px_alu rfl rfl rfl ?_
      obtain ⟨t8, h0, h⟩ := xs_some h
      obtain ⟨fs, e1, e2⟩ := xgI_some h0
      refine px_get rfl e1 e2 rfl ?_
      refine px_ic (k := 1) rfl rfl rfl ?_
      refine px_alu rfl rfl rfl ?_
      obtain ⟨ph9, h0, h⟩ := xs_some h
      obtain ⟨fs, e1, e2, e3⟩ := xpI_some h0
      subst e3
      refine px_put rfl e1 e2 trivial rfl ?_
      refine px_iinc (lv' := [_, _, _, _, _]) rfl rfl rfl rfl rfl rfl ?_
      refine px_goto rfl (by decide) rfl ?_
      exact (ih h :)
def f_M_map_234 (F : Nat) : Nat → Nat → Int32 → px_H → Option (Int32 × px_H)
  | 0, _, _, _ => none
  | n + 1, a0, a2, ph =>
    (xgI ph 12 48 a0).bind fun t1 =>
    if t1 ≤ a2 then
      f_M_map_366 F a0 ph
    else
      (xgR ph 12 49 a0).bind fun t2 =>
      (xaI ph 1 t2 a2).bind fun t3 =>
      (xgI ph 12 4 a0).bind fun t4 =>
      (xgR ph 12 29 a0).bind fun t5 =>
      (xaJ ph 2 t5 t3).bind fun t6 =>
      (xo ph 12 a0).bind fun _ =>
      xb (f_M_sixteen F a0 t4 t6 ph) fun _ ph7 =>
      (xgR ph7 12 3 a0).bind fun t8 =>
      (xgI ph7 12 4 a0).bind fun t9 =>
      (xsI ph7 0 t8 (t9 + (nI 16)) ((nI 32).toInt8.toInt32)).bind fun ph10 =>
      (xgI ph10 12 4 a0).bind fun t11 =>
      (xpI ph10 12 4 a0 (t11 + (nI 17))).bind fun ph12 =>
      f_M_map_291 F (f_M_map_234 F n) F a0 a2 t3 (nI 0) ph12
theorem r_M_map_234 {l : Launch} {g : px_G} {d F : Nat} : ∀ (n : Nat) {a0 : Nat} {a2 : Int32} {ph : px_H} {r : Int32} {ph' : px_H}, f_M_map_234 F n a0 a2 ph = some (r, ph') → PW l g (d + 2) m_M_map 234 [.ref a0, px_u, .int a2, px_u, px_u] [] ph (px_qI r ph') := by
  intro n
  induction n with
  | zero => intro _ _ _ _ _ h; cases h
  | succ n ih =>
    intro a0 a2 ph r ph' h
    unfold f_M_map_234 at h
    refine px_ld rfl rfl rfl rfl rfl ?_
    refine px_ld rfl rfl rfl rfl rfl ?_
    obtain ⟨t1, h0, h⟩ := xs_some h
    obtain ⟨fs, e1, e2⟩ := xgI_some h0
    refine px_get rfl e1 e2 rfl ?_
    refine px_icge rfl (by decide) rfl (fun hc => ?_) (fun hc => ?_)
    · replace h := (if_pos hc).symm.trans h
      refine px_forget (n := 2) (lv' := [_, _, _, _, _]) rfl ?_
      exact (r_M_map_366 h :)
    · replace h := (if_neg hc).symm.trans h
      refine px_ld rfl rfl rfl rfl rfl ?_
      obtain ⟨t2, h0, h⟩ := xs_some h
      obtain ⟨fs, e1, e2⟩ := xgR_some h0
      refine px_get rfl e1 e2 rfl ?_
      refine px_ld rfl rfl rfl rfl rfl ?_
      obtain ⟨t3, h0, h⟩ := xs_some h
      obtain ⟨N, f, e1, e2, e3⟩ := xaI_some h0
      subst e3
      refine px_iald rfl e1 rfl e2 rfl ?_
      refine px_st (lv' := [_, _, _, _, _]) rfl rfl rfl rfl rfl rfl rfl ?_
      refine px_ld rfl rfl rfl rfl rfl ?_
      refine px_ld rfl rfl rfl rfl rfl ?_
      obtain ⟨t4, h0, h⟩ := xs_some h
      obtain ⟨fs, e1, e2⟩ := xgI_some h0
      refine px_get rfl e1 e2 rfl ?_
      refine px_ld rfl rfl rfl rfl rfl ?_
      obtain ⟨t5, h0, h⟩ := xs_some h
      obtain ⟨fs, e1, e2⟩ := xgR_some h0
      refine px_get rfl e1 e2 rfl ?_
      refine px_ld rfl rfl rfl rfl rfl ?_
      obtain ⟨t6, h0, h⟩ := xs_some h
      obtain ⟨N, f, e1, e2, e3⟩ := xaJ_some h0
      subst e3
      refine px_lald rfl e1 rfl e2 rfl ?_
      obtain ⟨fs, h0, h⟩ := xs_some h
      have e1 := xo_some h0
      obtain ⟨u0, ph7, h0, h⟩ := xb_some h
      refine px_cV2 rfl rfl e1 rfl rfl rfl rfl rfl rfl rfl (r_M_sixteen h0 :) (fun _ _ q => nomatch q.2) (fun r ph' q => ?_)
      obtain ⟨rfl, q⟩ := q
      cases q
      refine px_ld rfl rfl rfl rfl rfl ?_
      obtain ⟨t8, h0, h⟩ := xs_some h
      obtain ⟨fs, e1, e2⟩ := xgR_some h0
      refine px_get rfl e1 e2 rfl ?_
      refine px_ld rfl rfl rfl rfl rfl ?_
      obtain ⟨t9, h0, h⟩ := xs_some h
      obtain ⟨fs, e1, e2⟩ := xgI_some h0
      refine px_get rfl e1 e2 rfl ?_
      refine px_ic (k := 16) rfl rfl rfl ?_
      refine px_alu rfl rfl rfl ?_
      refine px_ic (k := 32) rfl rfl rfl ?_
      obtain ⟨ph10, h0, h⟩ := xs_some h
      obtain ⟨N, f, e1, e2, e3⟩ := xsI_some h0
      subst e3
      refine px_bast rfl e1 rfl e2 rfl ?_
      refine px_ld rfl rfl rfl rfl rfl ?_
      refine px_alu rfl rfl rfl ?_
      obtain ⟨t11, h0, h⟩ := xs_some h
      obtain ⟨fs, e1, e2⟩ := xgI_some h0
      refine px_get rfl e1 e2 rfl ?_
      refine px_ic (k := 17) rfl rfl rfl ?_
      refine px_alu rfl rfl rfl ?_
      obtain ⟨ph12, h0, h⟩ := xs_some h
      obtain ⟨fs, e1, e2, e3⟩ := xpI_some h0
      subst e3
      refine px_put rfl e1 e2 trivial rfl ?_
      refine px_ic (k := 0) rfl rfl rfl ?_
      refine px_st (lv' := [_, _, _, _, _]) rfl rfl rfl rfl rfl rfl rfl ?_
      exact (r_M_map_291 @ih _ h :)
def f_M_map_232 (F : Nat) (a0 : Nat) (ph : px_H) : Option (Int32 × px_H) :=
  f_M_map_234 F F a0 (nI 0) ph
theorem r_M_map_232 {l : Launch} {g : px_G} {d F : Nat} {a0 : Nat} {ph : px_H} {r : Int32} {ph' : px_H} (h : f_M_map_232 F a0 ph = some (r, ph')) : PW l g (d + 2) m_M_map 232 [.ref a0, px_u, px_u, px_u, px_u] [] ph (px_qI r ph') := by
  unfold f_M_map_232 at h
  refine px_ic (k := 0) rfl rfl rfl ?_
  refine px_st (lv' := [_, _, _, _, _]) rfl rfl rfl rfl rfl rfl rfl ?_
  exact (r_M_map_234 _ h :)
def f_M_map_119 (F : Nat) : Nat → Nat → Int32 → px_H → Option (Int32 × px_H)
  | 0, _, _, _ => none
  | n + 1, a0, a2, ph =>
    (xgI ph 12 50 a0).bind fun t1 =>
    if t1 ≤ a2 then
      f_M_map_232 F a0 ph
    else
      (xgI ph 12 4 a0).bind fun t2 =>
      (xgR ph 12 57 a0).bind fun t3 =>
      (xaJ ph 2 t3 a2).bind fun t4 =>
      (xo ph 12 a0).bind fun _ =>
      xb (f_M_sixteen F a0 t2 t4 ph) fun _ ph5 =>
      (xgR ph5 12 3 a0).bind fun t6 =>
      (xgI ph5 12 4 a0).bind fun t7 =>
      (xsI ph5 0 t6 (t7 + (nI 16)) ((nI 32).toInt8.toInt32)).bind fun ph8 =>
      (xgI ph8 12 4 a0).bind fun t9 =>
      (xpI ph8 12 4 a0 (t9 + (nI 17))).bind fun ph10 =>
      (xgR ph10 12 56 a0).bind fun t11 =>
      (xaI ph10 1 t11 a2).bind fun t12 =>
      (xo ph10 12 a0).bind fun _ =>
      xb (f_M_sayNumber F a0 t12 (nI 32) ph10) fun _ ph13 =>
      (xgR ph13 12 55 a0).bind fun t14 =>
      (xaI ph13 1 t14 a2).bind fun t15 =>
      (xo ph13 12 a0).bind fun _ =>
      xb (f_M_sayNumber F a0 t15 (nI 32) ph13) fun _ ph16 =>
      (xgR ph16 12 52 a0).bind fun t17 =>
      (xaI ph16 1 t17 a2).bind fun t18 =>
      (xo ph16 12 a0).bind fun _ =>
      xb (f_M_sayNumber F a0 t18 (nI 46) ph16) fun _ ph19 =>
      (xgR ph19 12 53 a0).bind fun t20 =>
      (xaI ph19 1 t20 a2).bind fun t21 =>
      (xo ph19 12 a0).bind fun _ =>
      xb (f_M_sayNumber F a0 t21 (nI 46) ph19) fun _ ph22 =>
      (xgR ph22 12 54 a0).bind fun t23 =>
      (xaI ph22 1 t23 a2).bind fun t24 =>
      (xo ph22 12 a0).bind fun _ =>
      xb (f_M_sayNumber F a0 t24 (nI 10) ph22) fun _ ph25 =>
      f_M_map_119 F n a0 (a2 + nI 1) ph25
theorem r_M_map_119 {l : Launch} {g : px_G} {d F : Nat} : ∀ (n : Nat) {a0 : Nat} {a2 : Int32} {ph : px_H} {r : Int32} {ph' : px_H}, f_M_map_119 F n a0 a2 ph = some (r, ph') → PW l g (d + 2) m_M_map 119 [.ref a0, px_u, .int a2, px_u, px_u] [] ph (px_qI r ph') := by
  intro n
  induction n with
  | zero => intro _ _ _ _ _ h; cases h
  | succ n ih =>
    intro a0 a2 ph r ph' h
    unfold f_M_map_119 at h
    refine px_ld rfl rfl rfl rfl rfl ?_
    refine px_ld rfl rfl rfl rfl rfl ?_
    obtain ⟨t1, h0, h⟩ := xs_some h
    obtain ⟨fs, e1, e2⟩ := xgI_some h0
    refine px_get rfl e1 e2 rfl ?_
    refine px_icge rfl (by decide) rfl (fun hc => ?_) (fun hc => ?_)
    · replace h := (if_pos hc).symm.trans h
      refine px_forget (n := 2) (lv' := [_, _, _, _, _]) rfl ?_
      exact (r_M_map_232 h :)
    · replace h := (if_neg hc).symm.trans h
      refine px_ld rfl rfl rfl rfl rfl ?_
      refine px_ld rfl rfl rfl rfl rfl ?_
      obtain ⟨t2, h0, h⟩ := xs_some h
      obtain ⟨fs, e1, e2⟩ := xgI_some h0
      refine px_get rfl e1 e2 rfl ?_
      refine px_ld rfl rfl rfl rfl rfl ?_
      obtain ⟨t3, h0, h⟩ := xs_some h
      obtain ⟨fs, e1, e2⟩ := xgR_some h0
      refine px_get rfl e1 e2 rfl ?_
      refine px_ld rfl rfl rfl rfl rfl ?_
      obtain ⟨t4, h0, h⟩ := xs_some h
      obtain ⟨N, f, e1, e2, e3⟩ := xaJ_some h0
      subst e3
      refine px_lald rfl e1 rfl e2 rfl ?_
      obtain ⟨fs, h0, h⟩ := xs_some h
      have e1 := xo_some h0
      obtain ⟨u0, ph5, h0, h⟩ := xb_some h
      refine px_cV2 rfl rfl e1 rfl rfl rfl rfl rfl rfl rfl (r_M_sixteen h0 :) (fun _ _ q => nomatch q.2) (fun r ph' q => ?_)
      obtain ⟨rfl, q⟩ := q
      cases q
      refine px_ld rfl rfl rfl rfl rfl ?_
      obtain ⟨t6, h0, h⟩ := xs_some h
      obtain ⟨fs, e1, e2⟩ := xgR_some h0
      refine px_get rfl e1 e2 rfl ?_
      refine px_ld rfl rfl rfl rfl rfl ?_
      obtain ⟨t7, h0, h⟩ := xs_some h
      obtain ⟨fs, e1, e2⟩ := xgI_some h0
      refine px_get rfl e1 e2 rfl ?_
      refine px_ic (k := 16) rfl rfl rfl ?_
      refine px_alu rfl rfl rfl ?_
      refine px_ic (k := 32) rfl rfl rfl ?_
      obtain ⟨ph8, h0, h⟩ := xs_some h
      obtain ⟨N, f, e1, e2, e3⟩ := xsI_some h0
      subst e3
      refine px_bast rfl e1 rfl e2 rfl ?_
      refine px_ld rfl rfl rfl rfl rfl ?_
      refine px_alu rfl rfl rfl ?_
      obtain ⟨t9, h0, h⟩ := xs_some h
      obtain ⟨fs, e1, e2⟩ := xgI_some h0
      refine px_get rfl e1 e2 rfl ?_
      refine px_ic (k := 17) rfl rfl rfl ?_
      refine px_alu rfl rfl rfl ?_
      obtain ⟨ph10, h0, h⟩ := xs_some h
      obtain ⟨fs, e1, e2, e3⟩ := xpI_some h0
      subst e3
      refine px_put rfl e1 e2 trivial rfl ?_
      refine px_ld rfl rfl rfl rfl rfl ?_
      refine px_ld rfl rfl rfl rfl rfl ?_
      obtain ⟨t11, h0, h⟩ := xs_some h
      obtain ⟨fs, e1, e2⟩ := xgR_some h0
      refine px_get rfl e1 e2 rfl ?_
      refine px_ld rfl rfl rfl rfl rfl ?_
      obtain ⟨t12, h0, h⟩ := xs_some h
      obtain ⟨N, f, e1, e2, e3⟩ := xaI_some h0
      subst e3
      refine px_iald rfl e1 rfl e2 rfl ?_
      refine px_ic (k := 32) rfl rfl rfl ?_
      obtain ⟨fs, h0, h⟩ := xs_some h
      have e1 := xo_some h0
      obtain ⟨u0, ph13, h0, h⟩ := xb_some h
      refine px_cV2 rfl rfl e1 rfl rfl rfl rfl rfl rfl rfl (r_M_sayNumber h0 :) (fun _ _ q => nomatch q.2) (fun r ph' q => ?_)
      obtain ⟨rfl, q⟩ := q
      cases q
      refine px_ld rfl rfl rfl rfl rfl ?_
      refine px_ld rfl rfl rfl rfl rfl ?_
      obtain ⟨t14, h0, h⟩ := xs_some h
      obtain ⟨fs, e1, e2⟩ := xgR_some h0
      refine px_get rfl e1 e2 rfl ?_
      refine px_ld rfl rfl rfl rfl rfl ?_
      obtain ⟨t15, h0, h⟩ := xs_some h
      obtain ⟨N, f, e1, e2, e3⟩ := xaI_some h0
      subst e3
      refine px_iald rfl e1 rfl e2 rfl ?_
      refine px_ic (k := 32) rfl rfl rfl ?_
      obtain ⟨fs, h0, h⟩ := xs_some h
      have e1 := xo_some h0
      obtain ⟨u0, ph16, h0, h⟩ := xb_some h
      refine px_cV2 rfl rfl e1 rfl rfl rfl rfl rfl rfl rfl (r_M_sayNumber h0 :) (fun _ _ q => nomatch q.2) (fun r ph' q => ?_)
      obtain ⟨rfl, q⟩ := q
      cases q
      refine px_ld rfl rfl rfl rfl rfl ?_
      refine px_ld rfl rfl rfl rfl rfl ?_
      obtain ⟨t17, h0, h⟩ := xs_some h
      obtain ⟨fs, e1, e2⟩ := xgR_some h0
      refine px_get rfl e1 e2 rfl ?_
      refine px_ld rfl rfl rfl rfl rfl ?_
      obtain ⟨t18, h0, h⟩ := xs_some h
      obtain ⟨N, f, e1, e2, e3⟩ := xaI_some h0
      subst e3
      refine px_iald rfl e1 rfl e2 rfl ?_
      refine px_ic (k := 46) rfl rfl rfl ?_
      obtain ⟨fs, h0, h⟩ := xs_some h
      have e1 := xo_some h0
      obtain ⟨u0, ph19, h0, h⟩ := xb_some h
      refine px_cV2 rfl rfl e1 rfl rfl rfl rfl rfl rfl rfl (r_M_sayNumber h0 :) (fun _ _ q => nomatch q.2) (fun r ph' q => ?_)
      obtain ⟨rfl, q⟩ := q
      cases q
      refine px_ld rfl rfl rfl rfl rfl ?_
      refine px_ld rfl rfl rfl rfl rfl ?_
      obtain ⟨t20, h0, h⟩ := xs_some h
      obtain ⟨fs, e1, e2⟩ := xgR_some h0
      refine px_get rfl e1 e2 rfl ?_
      refine px_ld rfl rfl rfl rfl rfl ?_
      obtain ⟨t21, h0, h⟩ := xs_some h
      obtain ⟨N, f, e1, e2, e3⟩ := xaI_some h0
      subst e3
      refine px_iald rfl e1 rfl e2 rfl ?_
      refine px_ic (k := 46) rfl rfl rfl ?_
      obtain ⟨fs, h0, h⟩ := xs_some h
      have e1 := xo_some h0
      obtain ⟨u0, ph22, h0, h⟩ := xb_some h
      refine px_cV2 rfl rfl e1 rfl rfl rfl rfl rfl rfl rfl (r_M_sayNumber h0 :) (fun _ _ q => nomatch q.2) (fun r ph' q => ?_)
      obtain ⟨rfl, q⟩ := q
      cases q
      refine px_ld rfl rfl rfl rfl rfl ?_
      refine px_ld rfl rfl rfl rfl rfl ?_
      obtain ⟨t23, h0, h⟩ := xs_some h
      obtain ⟨fs, e1, e2⟩ := xgR_some h0
      refine px_get rfl e1 e2 rfl ?_
      refine px_ld rfl rfl rfl rfl rfl ?_
      obtain ⟨t24, h0, h⟩ := xs_some h
      obtain ⟨N, f, e1, e2, e3⟩ := xaI_some h0
      subst e3
      refine px_iald rfl e1 rfl e2 rfl ?_
      refine px_ic (k := 10) rfl rfl rfl ?_
      obtain ⟨fs, h0, h⟩ := xs_some h
      have e1 := xo_some h0
      obtain ⟨u0, ph25, h0, h⟩ := xb_some h
      refine px_cV2 rfl rfl e1 rfl rfl rfl rfl rfl rfl rfl (r_M_sayNumber h0 :) (fun _ _ q => nomatch q.2) (fun r ph' q => ?_)
      obtain ⟨rfl, q⟩ := q
      cases q
      refine px_iinc (lv' := [_, _, _, _, _]) rfl rfl rfl rfl rfl rfl ?_
      refine px_goto rfl (by decide) rfl ?_
      exact (ih h :)
def f_M_map_104 (F : Nat) (a0 : Nat) (a1 : Int32) (ph : px_H) : Option (Int32 × px_H) :=
  if a1 ≤ ((65536 : Int32)) then
    (xpI ph 12 4 a0 (nI 0)).bind fun ph1 =>
    f_M_map_119 F F a0 (nI 0) ph1
  else
    some (Int32.ofInt (-1), ph)
theorem r_M_map_104 {l : Launch} {g : px_G} {d F : Nat} {a0 : Nat} {a1 : Int32} {ph : px_H} {r : Int32} {ph' : px_H} (h : f_M_map_104 F a0 a1 ph = some (r, ph')) : PW l g (d + 2) m_M_map 104 [.ref a0, .int a1, px_u, px_u, px_u] [] ph (px_qI r ph') := by
  unfold f_M_map_104 at h
  refine px_ld rfl rfl rfl rfl rfl ?_
  refine px_ldc rfl (by decide) rfl rfl ?_
  refine px_icle rfl (by decide) rfl (fun hc => ?_) (fun hc => ?_)
  · replace h := (if_pos hc).symm.trans h
    refine px_ld rfl rfl rfl rfl rfl ?_
    refine px_ic (k := 0) rfl rfl rfl ?_
    obtain ⟨ph1, h0, h⟩ := xs_some h
    obtain ⟨fs, e1, e2, e3⟩ := xpI_some h0
    subst e3
    refine px_put rfl e1 e2 trivial rfl ?_
    refine px_ic (k := 0) rfl rfl rfl ?_
    refine px_st (lv' := [_, _, _, _, _]) rfl rfl rfl rfl rfl rfl rfl ?_
    refine px_forget (n := 1) (lv' := [_, _, _, _, _]) rfl ?_
    exact (r_M_map_119 _ h :)
  · replace h := (if_neg hc).symm.trans h
    refine px_alu rfl rfl rfl ?_
    cases h
    exact px_iret rfl (Or.inl rfl) rfl ⟨rfl, rfl⟩
def f_M_map_73 (F : Nat) : Nat → Nat → Int32 → Int32 → px_H → Option (Int32 × px_H)
  | 0, _, _, _, _ => none
  | n + 1, a0, a1, a2, ph =>
    (xgI ph 12 48 a0).bind fun t1 =>
    if t1 ≤ a2 then
      f_M_map_104 F a0 a1 ph
    else
      (xgR ph 12 22 a0).bind fun t2 =>
      (xgR ph 12 49 a0).bind fun t3 =>
      (xaI ph 1 t3 a2).bind fun t4 =>
      (xaI ph 1 t2 t4).bind fun t5 =>
      f_M_map_73 F n a0 (a1 + ((nI 18) + t5)) (a2 + nI 1) ph
theorem r_M_map_73 {l : Launch} {g : px_G} {d F : Nat} : ∀ (n : Nat) {a0 : Nat} {a1 : Int32} {a2 : Int32} {ph : px_H} {r : Int32} {ph' : px_H}, f_M_map_73 F n a0 a1 a2 ph = some (r, ph') → PW l g (d + 2) m_M_map 73 [.ref a0, .int a1, .int a2, px_u, px_u] [] ph (px_qI r ph') := by
  intro n
  induction n with
  | zero => intro _ _ _ _ _ _ h; cases h
  | succ n ih =>
    intro a0 a1 a2 ph r ph' h
    unfold f_M_map_73 at h
    refine px_ld rfl rfl rfl rfl rfl ?_
    refine px_ld rfl rfl rfl rfl rfl ?_
    obtain ⟨t1, h0, h⟩ := xs_some h
    obtain ⟨fs, e1, e2⟩ := xgI_some h0
    refine px_get rfl e1 e2 rfl ?_
    refine px_icge rfl (by decide) rfl (fun hc => ?_) (fun hc => ?_)
    · replace h := (if_pos hc).symm.trans h
      refine px_forget (n := 2) (lv' := [_, _, _, _, _]) rfl ?_
      exact (r_M_map_104 h :)
    · replace h := (if_neg hc).symm.trans h
      refine px_ld rfl rfl rfl rfl rfl ?_
      refine px_ic (k := 18) rfl rfl rfl ?_
      refine px_ld rfl rfl rfl rfl rfl ?_
      obtain ⟨t2, h0, h⟩ := xs_some h
      obtain ⟨fs, e1, e2⟩ := xgR_some h0
      refine px_get rfl e1 e2 rfl ?_
      refine px_ld rfl rfl rfl rfl rfl ?_
      obtain ⟨t3, h0, h⟩ := xs_some h
      obtain ⟨fs, e1, e2⟩ := xgR_some h0
      refine px_get rfl e1 e2 rfl ?_
      refine px_ld rfl rfl rfl rfl rfl ?_
      obtain ⟨t4, h0, h⟩ := xs_some h
      obtain ⟨N, f, e1, e2, e3⟩ := xaI_some h0
      subst e3
      refine px_iald rfl e1 rfl e2 rfl ?_
      obtain ⟨t5, h0, h⟩ := xs_some h
      obtain ⟨N, f, e1, e2, e3⟩ := xaI_some h0
      subst e3
      refine px_iald rfl e1 rfl e2 rfl ?_
      refine px_alu rfl rfl rfl ?_
      refine px_alu rfl rfl rfl ?_
      refine px_st (lv' := [_, _, _, _, _]) rfl rfl rfl rfl rfl rfl rfl ?_
      refine px_iinc (lv' := [_, _, _, _, _]) rfl rfl rfl rfl rfl rfl ?_
      refine px_goto rfl (by decide) rfl ?_
      exact (ih h :)
def f_M_map_71 (F : Nat) (a0 : Nat) (a1 : Int32) (ph : px_H) : Option (Int32 × px_H) :=
  f_M_map_73 F F a0 a1 (nI 0) ph
theorem r_M_map_71 {l : Launch} {g : px_G} {d F : Nat} {a0 : Nat} {a1 : Int32} {ph : px_H} {r : Int32} {ph' : px_H} (h : f_M_map_71 F a0 a1 ph = some (r, ph')) : PW l g (d + 2) m_M_map 71 [.ref a0, .int a1, px_u, px_u, px_u] [] ph (px_qI r ph') := by
  unfold f_M_map_71 at h
  refine px_ic (k := 0) rfl rfl rfl ?_
  refine px_st (lv' := [_, _, _, _, _]) rfl rfl rfl rfl rfl rfl rfl ?_
  exact (r_M_map_73 _ h :)
def f_M_map_26 (F : Nat) : Nat → Nat → Int32 → Int32 → px_H → Option (Int32 × px_H)
  | 0, _, _, _, _ => none
  | n + 1, a0, a1, a2, ph =>
    (xgI ph 12 50 a0).bind fun t1 =>
    if t1 ≤ a2 then
      f_M_map_71 F a0 a1 ph
    else
      (xgR ph 12 56 a0).bind fun t2 =>
      (xaI ph 1 t2 a2).bind fun t3 =>
      xb (f_M_wide F t3 ph) fun t4 ph5 =>
      (xgR ph5 12 54 a0).bind fun t6 =>
      (xaI ph5 1 t6 a2).bind fun t7 =>
      xb (f_M_wide F t7 ph5) fun t8 ph9 =>
      f_M_map_26 F n a0 (a1 + ((((((nI 22) + t4) + t8) + (nI 1)) + (nI 1)) + (nI 1))) (a2 + nI 1) ph9
theorem r_M_map_26 {l : Launch} {g : px_G} {d F : Nat} : ∀ (n : Nat) {a0 : Nat} {a1 : Int32} {a2 : Int32} {ph : px_H} {r : Int32} {ph' : px_H}, f_M_map_26 F n a0 a1 a2 ph = some (r, ph') → PW l g (d + 2) m_M_map 26 [.ref a0, .int a1, .int a2, px_u, px_u] [] ph (px_qI r ph') := by
  intro n
  induction n with
  | zero => intro _ _ _ _ _ _ h; cases h
  | succ n ih =>
    intro a0 a1 a2 ph r ph' h
    unfold f_M_map_26 at h
    refine px_ld rfl rfl rfl rfl rfl ?_
    refine px_ld rfl rfl rfl rfl rfl ?_
    obtain ⟨t1, h0, h⟩ := xs_some h
    obtain ⟨fs, e1, e2⟩ := xgI_some h0
    refine px_get rfl e1 e2 rfl ?_
    refine px_icge rfl (by decide) rfl (fun hc => ?_) (fun hc => ?_)
    · replace h := (if_pos hc).symm.trans h
      refine px_forget (n := 2) (lv' := [_, _, _, _, _]) rfl ?_
      exact (r_M_map_71 h :)
    · replace h := (if_neg hc).symm.trans h
      refine px_ld rfl rfl rfl rfl rfl ?_
      refine px_ic (k := 22) rfl rfl rfl ?_
      refine px_ld rfl rfl rfl rfl rfl ?_
      obtain ⟨t2, h0, h⟩ := xs_some h
      obtain ⟨fs, e1, e2⟩ := xgR_some h0
      refine px_get rfl e1 e2 rfl ?_
      refine px_ld rfl rfl rfl rfl rfl ?_
      obtain ⟨t3, h0, h⟩ := xs_some h
      obtain ⟨N, f, e1, e2, e3⟩ := xaI_some h0
      subst e3
      refine px_iald rfl e1 rfl e2 rfl ?_
      obtain ⟨t4, ph5, h0, h⟩ := xb_some h
      refine px_cS1 rfl rfl rfl rfl rfl rfl rfl (r_M_wide h0 :) (fun _ _ q => nomatch q.2) (fun r ph' q => ?_)
      obtain ⟨rfl, q⟩ := q
      cases q
      refine px_alu rfl rfl rfl ?_
      refine px_ld rfl rfl rfl rfl rfl ?_
      obtain ⟨t6, h0, h⟩ := xs_some h
      obtain ⟨fs, e1, e2⟩ := xgR_some h0
      refine px_get rfl e1 e2 rfl ?_
      refine px_ld rfl rfl rfl rfl rfl ?_
      obtain ⟨t7, h0, h⟩ := xs_some h
      obtain ⟨N, f, e1, e2, e3⟩ := xaI_some h0
      subst e3
      refine px_iald rfl e1 rfl e2 rfl ?_
      obtain ⟨t8, ph9, h0, h⟩ := xb_some h
      refine px_cS1 rfl rfl rfl rfl rfl rfl rfl (r_M_wide h0 :) (fun _ _ q => nomatch q.2) (fun r ph' q => ?_)
      obtain ⟨rfl, q⟩ := q
      cases q
      refine px_alu rfl rfl rfl ?_
      refine px_ic (k := 1) rfl rfl rfl ?_
      refine px_alu rfl rfl rfl ?_
      refine px_ic (k := 1) rfl rfl rfl ?_
      refine px_alu rfl rfl rfl ?_
      refine px_ic (k := 1) rfl rfl rfl ?_
      refine px_alu rfl rfl rfl ?_
      refine px_alu rfl rfl rfl ?_
      refine px_st (lv' := [_, _, _, _, _]) rfl rfl rfl rfl rfl rfl rfl ?_
      refine px_iinc (lv' := [_, _, _, _, _]) rfl rfl rfl rfl rfl rfl ?_
      refine px_goto rfl (by decide) rfl ?_
      exact (ih h :)
def f_M_map_13 (F : Nat) (a0 : Nat) (s0 : Nat) (s1 : Int32) (ph : px_H) : Option (Int32 × px_H) :=
  (xo ph 12 s0).bind fun _ =>
  xb (f_M_throwing F s0 s1 (nI 0) ph) fun t1 ph2 =>
  if t1 = 0 then
    f_M_map_26 F F a0 (nI 0) (nI 0) ph2
  else
    some (nI 0, ph2)
theorem r_M_map_13 {l : Launch} {g : px_G} {d F : Nat} {a0 : Nat} {s0 : Nat} {s1 : Int32} {ph : px_H} {r : Int32} {ph' : px_H} (h : f_M_map_13 F a0 s0 s1 ph = some (r, ph')) : PW l g (d + 2) m_M_map 13 [.ref a0, px_u, px_u, px_u, px_u] [.int s1, .ref s0] ph (px_qI r ph') := by
  unfold f_M_map_13 at h
  refine px_ic (k := 0) rfl rfl rfl ?_
  obtain ⟨fs, h0, h⟩ := xs_some h
  have e1 := xo_some h0
  obtain ⟨t1, ph2, h0, h⟩ := xb_some h
  refine px_cV2 rfl rfl e1 rfl rfl rfl rfl rfl rfl rfl (r_M_throwing h0 :) (fun _ _ q => nomatch q.2) (fun r ph' q => ?_)
  obtain ⟨rfl, q⟩ := q
  cases q
  refine px_ifeq rfl (by decide) rfl (fun hc => ?_) (fun hc => ?_)
  · replace h := (if_pos hc).symm.trans h
    refine px_ic (k := 0) rfl rfl rfl ?_
    refine px_st (lv' := [_, _, _, _, _]) rfl rfl rfl rfl rfl rfl rfl ?_
    refine px_ic (k := 0) rfl rfl rfl ?_
    refine px_st (lv' := [_, _, _, _, _]) rfl rfl rfl rfl rfl rfl rfl ?_
    exact (r_M_map_26 _ h :)
  · replace h := (if_neg hc).symm.trans h
    refine px_ic (k := 0) rfl rfl rfl ?_
    cases h
    exact px_iret rfl (Or.inl rfl) rfl ⟨rfl, rfl⟩
def f_M_map (F : Nat) (a0 : Nat) (ph : px_H) : Option (Int32 × px_H) :=
  (xgI ph 12 13 a0).bind fun t1 =>
  if t1 = 0 then
    f_M_map_13 F a0 a0 (nI 0) ph
  else
    f_M_map_13 F a0 a0 (nI 1) ph
theorem r_M_map {l : Launch} {g : px_G} {d F : Nat} {a0 : Nat} {ph : px_H} {r : Int32} {ph' : px_H} (h : f_M_map F a0 ph = some (r, ph')) : PW l g (d + 2) m_M_map 0 [.ref a0, px_u, px_u, px_u, px_u] [] ph (px_qI r ph') := by
  unfold f_M_map at h
  refine px_ld rfl rfl rfl rfl rfl ?_
  refine px_ld rfl rfl rfl rfl rfl ?_
  obtain ⟨t1, h0, h⟩ := xs_some h
  obtain ⟨fs, e1, e2⟩ := xgI_some h0
  refine px_get rfl e1 e2 rfl ?_
  refine px_ifeq rfl (by decide) rfl (fun hc => ?_) (fun hc => ?_)
  · replace h := (if_pos hc).symm.trans h
    refine px_ic (k := 0) rfl rfl rfl ?_
    exact (r_M_map_13 h :)
  · replace h := (if_neg hc).symm.trans h
    refine px_ic (k := 1) rfl rfl rfl ?_
    refine px_goto rfl (by decide) rfl ?_
    exact (r_M_map_13 h :)
def f_M_triedNum_38 (F : Nat) (a3 : Int64) (ph : px_H) : Option (Int64 × px_H) :=
  some (a3, ph)
theorem r_M_triedNum_38 {l : Launch} {g : px_G} {d F : Nat} {a3 : Int64} {ph : px_H} {r : Int64} {ph' : px_H} (h : f_M_triedNum_38 F a3 ph = some (r, ph')) : PW l g (d + 0) m_M_triedNum 38 [px_u, px_u, px_u, .long a3, px_u, px_u] [] ph (px_qJ r ph') := by
  unfold f_M_triedNum_38 at h
  refine px_ld rfl rfl rfl rfl rfl ?_
  cases h
  exact px_lret rfl rfl rfl ⟨rfl, rfl⟩
def f_M_triedNum_7 (F : Nat) : Nat → Nat → Int32 → Int64 → Int32 → px_H → Option (Int64 × px_H)
  | 0, _, _, _, _, _ => none
  | n + 1, a0, a1, a3, a5, ph =>
    if a5 < 0 then
      f_M_triedNum_38 F a3 ph
    else
      (xgR ph 12 99 a0).bind fun t1 =>
      (xaI ph 0 t1 (a1 + a5)).bind fun t2 =>
      f_M_triedNum_7 F n a0 a1 ((a3 <<< ((nI 8).toInt64 &&& 63)) ||| ((t2 &&& (nI 255)).toInt64)) (a5 + Int32.ofInt (-1)) ph
theorem r_M_triedNum_7 {l : Launch} {g : px_G} {d F : Nat} : ∀ (n : Nat) {a0 : Nat} {a1 : Int32} {a3 : Int64} {a5 : Int32} {ph : px_H} {r : Int64} {ph' : px_H}, f_M_triedNum_7 F n a0 a1 a3 a5 ph = some (r, ph') → PW l g (d + 0) m_M_triedNum 7 [.ref a0, .int a1, px_u, .long a3, px_u, .int a5] [] ph (px_qJ r ph') := by
  intro n
  induction n with
  | zero => intro _ _ _ _ _ _ _ h; cases h
  | succ n ih =>
    intro a0 a1 a3 a5 ph r ph' h
    unfold f_M_triedNum_7 at h
    refine px_ld rfl rfl rfl rfl rfl ?_
    refine px_iflt rfl rfl rfl (fun hc => ?_) (fun hc => ?_)
    · replace h := (if_pos hc).symm.trans h
      refine px_forget (n := 0) (lv' := [_, _, _, _, _, _]) rfl ?_
      refine px_forget (n := 1) (lv' := [_, _, _, _, _, _]) rfl ?_
      refine px_forget (n := 5) (lv' := [_, _, _, _, _, _]) rfl ?_
      exact (r_M_triedNum_38 h :)
    · replace h := (if_neg hc).symm.trans h
      refine px_ld rfl rfl rfl rfl rfl ?_
      refine px_ic (k := 8) rfl rfl rfl ?_
      refine px_alu rfl rfl rfl ?_
      refine px_ld rfl rfl rfl rfl rfl ?_
      obtain ⟨t1, h0, h⟩ := xs_some h
      obtain ⟨fs, e1, e2⟩ := xgR_some h0
      refine px_get rfl e1 e2 rfl ?_
      refine px_ld rfl rfl rfl rfl rfl ?_
      refine px_ld rfl rfl rfl rfl rfl ?_
      refine px_alu rfl rfl rfl ?_
      obtain ⟨t2, h0, h⟩ := xs_some h
      obtain ⟨N, f, e1, e2, e3⟩ := xaI_some h0
      subst e3
      refine px_bald rfl e1 rfl e2 rfl ?_
      refine px_ic (k := 255) rfl rfl rfl ?_
      refine px_alu rfl rfl rfl ?_
      refine px_alu rfl rfl rfl ?_
      refine px_alu rfl rfl rfl ?_
      refine px_st (lv' := [_, _, _, _, _, _]) rfl rfl rfl rfl rfl rfl rfl ?_
      refine px_iinc (lv' := [_, _, _, _, _, _]) rfl rfl rfl rfl rfl rfl ?_
      refine px_goto rfl rfl rfl ?_
      exact (ih h :)
def f_M_triedNum (F : Nat) (a0 : Nat) (a1 : Int32) (a2 : Int32) (ph : px_H) : Option (Int64 × px_H) :=
  f_M_triedNum_7 F F a0 a1 (lN 0) (a2 - (nI 1)) ph
theorem r_M_triedNum {l : Launch} {g : px_G} {d F : Nat} {a0 : Nat} {a1 : Int32} {a2 : Int32} {ph : px_H} {r : Int64} {ph' : px_H} (h : f_M_triedNum F a0 a1 a2 ph = some (r, ph')) : PW l g (d + 0) m_M_triedNum 0 [.ref a0, .int a1, .int a2, px_u, px_u, px_u] [] ph (px_qJ r ph') := by
  unfold f_M_triedNum at h
  refine px_alu rfl rfl rfl ?_
  refine px_st (lv' := [_, _, _, _, _, _]) rfl rfl rfl rfl rfl rfl rfl ?_
  refine px_ld rfl rfl rfl rfl rfl ?_
  refine px_ic (k := 1) rfl rfl rfl ?_
  refine px_alu rfl rfl rfl ?_
  refine px_st (lv' := [_, _, _, _, _, _]) rfl rfl rfl rfl rfl rfl rfl ?_
  refine px_forget (n := 2) (lv' := [_, _, _, _, _, _]) rfl ?_
  exact (r_M_triedNum_7 _ h :)
def f_M_isExecutable_92 (F : Nat) (s0 : Int32) (ph : px_H) : Option (Int32 × px_H) :=
  xz s0 ph
theorem r_M_isExecutable_92 {l : Launch} {g : px_G} {d F : Nat} {s0 : Int32} {ph : px_H} {r : Int32} {ph' : px_H} (h : f_M_isExecutable_92 F s0 ph = some (r, ph')) : PW l g (d + 1) m_M_isExecutable 92 [px_u, px_u] [.int s0] ph (px_qI r ph') := by
  unfold f_M_isExecutable_92 at h
  obtain ⟨e0, e1, e2⟩ := xz_some h
  subst e1 e2
  exact px_iret rfl (Or.inr ⟨rfl, e0⟩) rfl ⟨rfl, rfl⟩
def f_M_isExecutable_91 (F : Nat) (ph : px_H) : Option (Int32 × px_H) :=
  f_M_isExecutable_92 F (nI 0) ph
theorem r_M_isExecutable_91 {l : Launch} {g : px_G} {d F : Nat} {ph : px_H} {r : Int32} {ph' : px_H} (h : f_M_isExecutable_91 F ph = some (r, ph')) : PW l g (d + 1) m_M_isExecutable 91 [px_u, px_u] [] ph (px_qI r ph') := by
  unfold f_M_isExecutable_91 at h
  refine px_ic (k := 0) rfl rfl rfl ?_
  exact (r_M_isExecutable_92 h :)
def f_M_isExecutable_56 (F : Nat) (a0 : Nat) (s0 : Int32) (ph : px_H) : Option (Int32 × px_H) :=
  if s0 = 0 then
    f_M_isExecutable_91 F ph
  else
    (xo ph 12 a0).bind fun _ =>
    xb (f_M_triedNum F a0 (nI 20) (nI 4) ph) fun t1 ph2 =>
    if t1 = (lN 1) then
      (xo ph2 12 a0).bind fun _ =>
      xb (f_M_triedNum F a0 (nI 54) (nI 2) ph2) fun t3 ph4 =>
      if t3 = ((56 : Int64)) then
        f_M_isExecutable_92 F (nI 1) ph4
      else
        f_M_isExecutable_91 F ph4
    else
      f_M_isExecutable_91 F ph2
theorem r_M_isExecutable_56 {l : Launch} {g : px_G} {d F : Nat} {a0 : Nat} {s0 : Int32} {ph : px_H} {r : Int32} {ph' : px_H} (h : f_M_isExecutable_56 F a0 s0 ph = some (r, ph')) : PW l g (d + 1) m_M_isExecutable 56 [.ref a0, px_u] [.int s0] ph (px_qI r ph') := by
  unfold f_M_isExecutable_56 at h
  refine px_st (lv' := [_, _]) rfl rfl rfl rfl rfl rfl rfl ?_
  refine px_ld rfl rfl rfl rfl rfl ?_
  refine px_ifeq rfl rfl rfl (fun hc => ?_) (fun hc => ?_)
  · replace h := (if_pos hc).symm.trans h
    refine px_forget (n := 0) (lv' := [_, _]) rfl ?_
    refine px_forget (n := 1) (lv' := [_, _]) rfl ?_
    exact (r_M_isExecutable_91 h :)
  · replace h := (if_neg hc).symm.trans h
    refine px_ld rfl rfl rfl rfl rfl ?_
    refine px_ic (k := 20) rfl rfl rfl ?_
    refine px_ic (k := 4) rfl rfl rfl ?_
    obtain ⟨fs, h0, h⟩ := xs_some h
    have e1 := xo_some h0
    obtain ⟨t1, ph2, h0, h⟩ := xb_some h
    refine px_cV2 rfl rfl e1 rfl rfl rfl rfl rfl rfl rfl (r_M_triedNum h0 :) (fun _ _ q => nomatch q.2) (fun r ph' q => ?_)
    obtain ⟨rfl, q⟩ := q
    cases q
    refine px_alu rfl rfl rfl ?_
    refine px_alu rfl rfl rfl ?_
    refine px_ifne rfl rfl rfl (fun hc => ?_) (fun hc => ?_)
    · replace h := (if_neg (fun q => hc ((lg_cmp_eq _ _).mpr q))).symm.trans h
      refine px_forget (n := 0) (lv' := [_, _]) rfl ?_
      refine px_forget (n := 1) (lv' := [_, _]) rfl ?_
      exact (r_M_isExecutable_91 h :)
    · replace h := (if_pos ((lg_cmp_eq _ _).mp hc)).symm.trans h
      refine px_ld rfl rfl rfl rfl rfl ?_
      refine px_ic (k := 54) rfl rfl rfl ?_
      refine px_ic (k := 2) rfl rfl rfl ?_
      obtain ⟨fs, h0, h⟩ := xs_some h
      have e1 := xo_some h0
      obtain ⟨t3, ph4, h0, h⟩ := xb_some h
      refine px_cV2 rfl rfl e1 rfl rfl rfl rfl rfl rfl rfl (r_M_triedNum h0 :) (fun _ _ q => nomatch q.2) (fun r ph' q => ?_)
      obtain ⟨rfl, q⟩ := q
      cases q
      refine px_ldc2 rfl rfl rfl ?_
      refine px_alu rfl rfl rfl ?_
      refine px_ifne rfl rfl rfl (fun hc => ?_) (fun hc => ?_)
      · replace h := (if_neg (fun q => hc ((lg_cmp_eq _ _).mpr q))).symm.trans h
        refine px_forget (n := 0) (lv' := [_, _]) rfl ?_
        refine px_forget (n := 1) (lv' := [_, _]) rfl ?_
        exact (r_M_isExecutable_91 h :)
      · replace h := (if_pos ((lg_cmp_eq _ _).mp hc)).symm.trans h
        refine px_ic (k := 1) rfl rfl rfl ?_
        refine px_goto rfl rfl rfl ?_
        refine px_forget (n := 0) (lv' := [_, _]) rfl ?_
        refine px_forget (n := 1) (lv' := [_, _]) rfl ?_
        exact (r_M_isExecutable_92 h :)
def f_M_isExecutable_55 (F : Nat) (a0 : Nat) (ph : px_H) : Option (Int32 × px_H) :=
  f_M_isExecutable_56 F a0 (nI 0) ph
theorem r_M_isExecutable_55 {l : Launch} {g : px_G} {d F : Nat} {a0 : Nat} {ph : px_H} {r : Int32} {ph' : px_H} (h : f_M_isExecutable_55 F a0 ph = some (r, ph')) : PW l g (d + 1) m_M_isExecutable 55 [.ref a0, px_u] [] ph (px_qI r ph') := by
  unfold f_M_isExecutable_55 at h
  refine px_ic (k := 0) rfl rfl rfl ?_
  exact (r_M_isExecutable_56 h :)
def f_M_isExecutable (F : Nat) (a0 : Nat) (ph : px_H) : Option (Int32 × px_H) :=
  (xgI ph 12 101 a0).bind fun t1 =>
  if t1 ≤ (nI 63) then
    f_M_isExecutable_55 F a0 ph
  else
    (xo ph 12 a0).bind fun _ =>
    xb (f_M_triedNum F a0 (nI 0) (nI 7) ph) fun t2 ph3 =>
    if t2 = ((282584257676671 : Int64)) then
      (xo ph3 12 a0).bind fun _ =>
      xb (f_M_triedNum F a0 (nI 16) (nI 2) ph3) fun t4 ph5 =>
      if t4 = ((2 : Int64)) then
        (xo ph5 12 a0).bind fun _ =>
        xb (f_M_triedNum F a0 (nI 18) (nI 2) ph5) fun t6 ph7 =>
        if t6 = ((62 : Int64)) then
          f_M_isExecutable_56 F a0 (nI 1) ph7
        else
          f_M_isExecutable_55 F a0 ph7
      else
        f_M_isExecutable_55 F a0 ph5
    else
      f_M_isExecutable_55 F a0 ph3
theorem r_M_isExecutable {l : Launch} {g : px_G} {d F : Nat} {a0 : Nat} {ph : px_H} {r : Int32} {ph' : px_H} (h : f_M_isExecutable F a0 ph = some (r, ph')) : PW l g (d + 1) m_M_isExecutable 0 [.ref a0, px_u] [] ph (px_qI r ph') := by
  unfold f_M_isExecutable at h
  refine px_ld rfl rfl rfl rfl rfl ?_
  obtain ⟨t1, h0, h⟩ := xs_some h
  obtain ⟨fs, e1, e2⟩ := xgI_some h0
  refine px_get rfl e1 e2 rfl ?_
  refine px_ic (k := 63) rfl rfl rfl ?_
  refine px_icle rfl rfl rfl (fun hc => ?_) (fun hc => ?_)
  · replace h := (if_pos hc).symm.trans h
    exact (r_M_isExecutable_55 h :)
  · replace h := (if_neg hc).symm.trans h
    refine px_ld rfl rfl rfl rfl rfl ?_
    refine px_ic (k := 0) rfl rfl rfl ?_
    refine px_ic (k := 7) rfl rfl rfl ?_
    obtain ⟨fs, h0, h⟩ := xs_some h
    have e1 := xo_some h0
    obtain ⟨t2, ph3, h0, h⟩ := xb_some h
    refine px_cV2 rfl rfl e1 rfl rfl rfl rfl rfl rfl rfl (r_M_triedNum h0 :) (fun _ _ q => nomatch q.2) (fun r ph' q => ?_)
    obtain ⟨rfl, q⟩ := q
    cases q
    refine px_ldc2 rfl rfl rfl ?_
    refine px_alu rfl rfl rfl ?_
    refine px_ifne rfl rfl rfl (fun hc => ?_) (fun hc => ?_)
    · replace h := (if_neg (fun q => hc ((lg_cmp_eq _ _).mpr q))).symm.trans h
      exact (r_M_isExecutable_55 h :)
    · replace h := (if_pos ((lg_cmp_eq _ _).mp hc)).symm.trans h
      refine px_ld rfl rfl rfl rfl rfl ?_
      refine px_ic (k := 16) rfl rfl rfl ?_
      refine px_ic (k := 2) rfl rfl rfl ?_
      obtain ⟨fs, h0, h⟩ := xs_some h
      have e1 := xo_some h0
      obtain ⟨t4, ph5, h0, h⟩ := xb_some h
      refine px_cV2 rfl rfl e1 rfl rfl rfl rfl rfl rfl rfl (r_M_triedNum h0 :) (fun _ _ q => nomatch q.2) (fun r ph' q => ?_)
      obtain ⟨rfl, q⟩ := q
      cases q
      refine px_ldc2 rfl rfl rfl ?_
      refine px_alu rfl rfl rfl ?_
      refine px_ifne rfl rfl rfl (fun hc => ?_) (fun hc => ?_)
      · replace h := (if_neg (fun q => hc ((lg_cmp_eq _ _).mpr q))).symm.trans h
        exact (r_M_isExecutable_55 h :)
      · replace h := (if_pos ((lg_cmp_eq _ _).mp hc)).symm.trans h
        refine px_ld rfl rfl rfl rfl rfl ?_
        refine px_ic (k := 18) rfl rfl rfl ?_
        refine px_ic (k := 2) rfl rfl rfl ?_
        obtain ⟨fs, h0, h⟩ := xs_some h
        have e1 := xo_some h0
        obtain ⟨t6, ph7, h0, h⟩ := xb_some h
        refine px_cV2 rfl rfl e1 rfl rfl rfl rfl rfl rfl rfl (r_M_triedNum h0 :) (fun _ _ q => nomatch q.2) (fun r ph' q => ?_)
        obtain ⟨rfl, q⟩ := q
        cases q
        refine px_ldc2 rfl rfl rfl ?_
        refine px_alu rfl rfl rfl ?_
        refine px_ifne rfl rfl rfl (fun hc => ?_) (fun hc => ?_)
        · replace h := (if_neg (fun q => hc ((lg_cmp_eq _ _).mpr q))).symm.trans h
          exact (r_M_isExecutable_55 h :)
        · replace h := (if_pos ((lg_cmp_eq _ _).mp hc)).symm.trans h
          refine px_ic (k := 1) rfl rfl rfl ?_
          refine px_goto rfl rfl rfl ?_
          exact (r_M_isExecutable_56 h :)
def f_M_rowError_195 (F : Nat) (a0 : Nat) (a1 : Int32) (a2 : Int64) (a4 : Int64) (a6 : Int64) (a8 : Int64) (ph : px_H) : Option (Int32 × px_H) :=
  (xgR ph 12 110 a0).bind fun t1 =>
  (xgI ph 12 115 a0).bind fun t2 =>
  (xo ph 12 a0).bind fun _ =>
  xb (f_M_triedNum F a0 (a1 + (nI 4)) (nI 4) ph) fun t3 ph4 =>
  (xsJ ph4 2 t1 t2 t3).bind fun ph5 =>
  (xgR ph5 12 111 a0).bind fun t6 =>
  (xgI ph5 12 115 a0).bind fun t7 =>
  (xsJ ph5 2 t6 t7 a2).bind fun ph8 =>
  (xgR ph8 12 112 a0).bind fun t9 =>
  (xgI ph8 12 115 a0).bind fun t10 =>
  (xsJ ph8 2 t9 t10 a4).bind fun ph11 =>
  (xgR ph11 12 113 a0).bind fun t12 =>
  (xgI ph11 12 115 a0).bind fun t13 =>
  (xsJ ph11 2 t12 t13 a6).bind fun ph14 =>
  (xgR ph14 12 114 a0).bind fun t15 =>
  (xgI ph14 12 115 a0).bind fun t16 =>
  (xsJ ph14 2 t15 t16 a8).bind fun ph17 =>
  (xgI ph17 12 115 a0).bind fun t18 =>
  (xpI ph17 12 115 a0 (t18 + (nI 1))).bind fun ph19 =>
  some (nI 0, ph19)
theorem r_M_rowError_195 {l : Launch} {g : px_G} {d F : Nat} {a0 : Nat} {a1 : Int32} {a2 : Int64} {a4 : Int64} {a6 : Int64} {a8 : Int64} {ph : px_H} {r : Int32} {ph' : px_H} (h : f_M_rowError_195 F a0 a1 a2 a4 a6 a8 ph = some (r, ph')) : PW l g (d + 1) m_M_rowError 195 [.ref a0, .int a1, .long a2, px_u, .long a4, px_u, .long a6, px_u, .long a8, px_u, px_u, px_u, px_u] [] ph (px_qI r ph') := by
  unfold f_M_rowError_195 at h
  refine px_ld rfl rfl rfl rfl rfl ?_
  obtain ⟨t1, h0, h⟩ := xs_some h
  obtain ⟨fs, e1, e2⟩ := xgR_some h0
  refine px_get rfl e1 e2 rfl ?_
  refine px_ld rfl rfl rfl rfl rfl ?_
  obtain ⟨t2, h0, h⟩ := xs_some h
  obtain ⟨fs, e1, e2⟩ := xgI_some h0
  refine px_get rfl e1 e2 rfl ?_
  refine px_ld rfl rfl rfl rfl rfl ?_
  refine px_ld rfl rfl rfl rfl rfl ?_
  refine px_ic (k := 4) rfl rfl rfl ?_
  refine px_alu rfl rfl rfl ?_
  refine px_ic (k := 4) rfl rfl rfl ?_
  obtain ⟨fs, h0, h⟩ := xs_some h
  have e1 := xo_some h0
  obtain ⟨t3, ph4, h0, h⟩ := xb_some h
  refine px_cV2 rfl rfl e1 rfl rfl rfl rfl rfl rfl rfl (r_M_triedNum h0 :) (fun _ _ q => nomatch q.2) (fun r ph' q => ?_)
  obtain ⟨rfl, q⟩ := q
  cases q
  obtain ⟨ph5, h0, h⟩ := xs_some h
  obtain ⟨N, f, e1, e2, e3⟩ := xsJ_some h0
  subst e3
  refine px_last rfl e1 rfl e2 rfl ?_
  refine px_ld rfl rfl rfl rfl rfl ?_
  obtain ⟨t6, h0, h⟩ := xs_some h
  obtain ⟨fs, e1, e2⟩ := xgR_some h0
  refine px_get rfl e1 e2 rfl ?_
  refine px_ld rfl rfl rfl rfl rfl ?_
  obtain ⟨t7, h0, h⟩ := xs_some h
  obtain ⟨fs, e1, e2⟩ := xgI_some h0
  refine px_get rfl e1 e2 rfl ?_
  refine px_ld rfl rfl rfl rfl rfl ?_
  obtain ⟨ph8, h0, h⟩ := xs_some h
  obtain ⟨N, f, e1, e2, e3⟩ := xsJ_some h0
  subst e3
  refine px_last rfl e1 rfl e2 rfl ?_
  refine px_ld rfl rfl rfl rfl rfl ?_
  obtain ⟨t9, h0, h⟩ := xs_some h
  obtain ⟨fs, e1, e2⟩ := xgR_some h0
  refine px_get rfl e1 e2 rfl ?_
  refine px_ld rfl rfl rfl rfl rfl ?_
  obtain ⟨t10, h0, h⟩ := xs_some h
  obtain ⟨fs, e1, e2⟩ := xgI_some h0
  refine px_get rfl e1 e2 rfl ?_
  refine px_ld rfl rfl rfl rfl rfl ?_
  obtain ⟨ph11, h0, h⟩ := xs_some h
  obtain ⟨N, f, e1, e2, e3⟩ := xsJ_some h0
  subst e3
  refine px_last rfl e1 rfl e2 rfl ?_
  refine px_ld rfl rfl rfl rfl rfl ?_
  obtain ⟨t12, h0, h⟩ := xs_some h
  obtain ⟨fs, e1, e2⟩ := xgR_some h0
  refine px_get rfl e1 e2 rfl ?_
  refine px_ld rfl rfl rfl rfl rfl ?_
  obtain ⟨t13, h0, h⟩ := xs_some h
  obtain ⟨fs, e1, e2⟩ := xgI_some h0
  refine px_get rfl e1 e2 rfl ?_
  refine px_ld rfl rfl rfl rfl rfl ?_
  obtain ⟨ph14, h0, h⟩ := xs_some h
  obtain ⟨N, f, e1, e2, e3⟩ := xsJ_some h0
  subst e3
  refine px_last rfl e1 rfl e2 rfl ?_
  refine px_ld rfl rfl rfl rfl rfl ?_
  obtain ⟨t15, h0, h⟩ := xs_some h
  obtain ⟨fs, e1, e2⟩ := xgR_some h0
  refine px_get rfl e1 e2 rfl ?_
  refine px_ld rfl rfl rfl rfl rfl ?_
  obtain ⟨t16, h0, h⟩ := xs_some h
  obtain ⟨fs, e1, e2⟩ := xgI_some h0
  refine px_get rfl e1 e2 rfl ?_
  refine px_ld rfl rfl rfl rfl rfl ?_
  obtain ⟨ph17, h0, h⟩ := xs_some h
  obtain ⟨N, f, e1, e2, e3⟩ := xsJ_some h0
  subst e3
  refine px_last rfl e1 rfl e2 rfl ?_
  refine px_ld rfl rfl rfl rfl rfl ?_
  refine px_alu rfl rfl rfl ?_
  obtain ⟨t18, h0, h⟩ := xs_some h
  obtain ⟨fs, e1, e2⟩ := xgI_some h0
  refine px_get rfl e1 e2 rfl ?_
  refine px_ic (k := 1) rfl rfl rfl ?_
  refine px_alu rfl rfl rfl ?_
  obtain ⟨ph19, h0, h⟩ := xs_some h
  obtain ⟨fs, e1, e2, e3⟩ := xpI_some h0
  subst e3
  refine px_put rfl e1 e2 trivial rfl ?_
  refine px_ic (k := 0) rfl rfl rfl ?_
  cases h
  exact px_iret rfl (Or.inl rfl) rfl ⟨rfl, rfl⟩
def f_M_rowError_157 (F : Nat) (a0 : Nat) (a1 : Int32) (a2 : Int64) (a4 : Int64) (a6 : Int64) (a8 : Int64) (ph : px_H) : Option (Int32 × px_H) :=
  (xgI ph 12 115 a0).bind fun t1 =>
  if t1 ≤ 0 then
    f_M_rowError_195 F a0 a1 a2 a4 a6 a8 ph
  else
    (xgR ph 12 112 a0).bind fun t2 =>
    (xgI ph 12 115 a0).bind fun t3 =>
    (xaJ ph 2 t2 (t3 - (nI 1))).bind fun t4 =>
    (xgR ph 12 114 a0).bind fun t5 =>
    (xgI ph 12 115 a0).bind fun t6 =>
    (xaJ ph 2 t5 (t6 - (nI 1))).bind fun t7 =>
    if (t4 + t7) ≤ a4 then
      f_M_rowError_195 F a0 a1 a2 a4 a6 a8 ph
    else
      some (nI 5, ph)
theorem r_M_rowError_157 {l : Launch} {g : px_G} {d F : Nat} {a0 : Nat} {a1 : Int32} {a2 : Int64} {a4 : Int64} {a6 : Int64} {a8 : Int64} {ph : px_H} {r : Int32} {ph' : px_H} (h : f_M_rowError_157 F a0 a1 a2 a4 a6 a8 ph = some (r, ph')) : PW l g (d + 1) m_M_rowError 157 [.ref a0, .int a1, .long a2, px_u, .long a4, px_u, .long a6, px_u, .long a8, px_u, px_u, px_u, px_u] [] ph (px_qI r ph') := by
  unfold f_M_rowError_157 at h
  refine px_ld rfl rfl rfl rfl rfl ?_
  obtain ⟨t1, h0, h⟩ := xs_some h
  obtain ⟨fs, e1, e2⟩ := xgI_some h0
  refine px_get rfl e1 e2 rfl ?_
  refine px_ifle rfl (by decide) rfl (fun hc => ?_) (fun hc => ?_)
  · replace h := (if_pos hc).symm.trans h
    exact (r_M_rowError_195 h :)
  · replace h := (if_neg hc).symm.trans h
    refine px_ld rfl rfl rfl rfl rfl ?_
    refine px_ld rfl rfl rfl rfl rfl ?_
    obtain ⟨t2, h0, h⟩ := xs_some h
    obtain ⟨fs, e1, e2⟩ := xgR_some h0
    refine px_get rfl e1 e2 rfl ?_
    refine px_ld rfl rfl rfl rfl rfl ?_
    obtain ⟨t3, h0, h⟩ := xs_some h
    obtain ⟨fs, e1, e2⟩ := xgI_some h0
    refine px_get rfl e1 e2 rfl ?_
    refine px_ic (k := 1) rfl rfl rfl ?_
    refine px_alu rfl rfl rfl ?_
    obtain ⟨t4, h0, h⟩ := xs_some h
    obtain ⟨N, f, e1, e2, e3⟩ := xaJ_some h0
    subst e3
    refine px_lald rfl e1 rfl e2 rfl ?_
    refine px_ld rfl rfl rfl rfl rfl ?_
    obtain ⟨t5, h0, h⟩ := xs_some h
    obtain ⟨fs, e1, e2⟩ := xgR_some h0
    refine px_get rfl e1 e2 rfl ?_
    refine px_ld rfl rfl rfl rfl rfl ?_
    obtain ⟨t6, h0, h⟩ := xs_some h
    obtain ⟨fs, e1, e2⟩ := xgI_some h0
    refine px_get rfl e1 e2 rfl ?_
    refine px_ic (k := 1) rfl rfl rfl ?_
    refine px_alu rfl rfl rfl ?_
    obtain ⟨t7, h0, h⟩ := xs_some h
    obtain ⟨N, f, e1, e2, e3⟩ := xaJ_some h0
    subst e3
    refine px_lald rfl e1 rfl e2 rfl ?_
    refine px_alu rfl rfl rfl ?_
    refine px_alu rfl rfl rfl ?_
    refine px_ifge rfl (by decide) rfl (fun hc => ?_) (fun hc => ?_)
    · replace h := (if_pos ((lg_cmp_ge _ _).mp hc)).symm.trans h
      exact (r_M_rowError_195 h :)
    · replace h := (if_neg (fun q => hc ((lg_cmp_ge _ _).mpr q))).symm.trans h
      refine px_ic (k := 5) rfl rfl rfl ?_
      cases h
      exact px_iret rfl (Or.inl rfl) rfl ⟨rfl, rfl⟩
def f_M_rowError_132 (F : Nat) (ph : px_H) : Option (Int32 × px_H) :=
  some (nI 4, ph)
theorem r_M_rowError_132 {l : Launch} {g : px_G} {d F : Nat} {ph : px_H} {r : Int32} {ph' : px_H} (h : f_M_rowError_132 F ph = some (r, ph')) : PW l g (d + 1) m_M_rowError 132 [px_u, px_u, px_u, px_u, px_u, px_u, px_u, px_u, px_u, px_u, px_u, px_u, px_u] [] ph (px_qI r ph') := by
  unfold f_M_rowError_132 at h
  refine px_ic (k := 4) rfl rfl rfl ?_
  cases h
  exact px_iret rfl (Or.inl rfl) rfl ⟨rfl, rfl⟩
def f_M_rowError_92 (F : Nat) (a0 : Nat) (a1 : Int32) (a2 : Int64) (a4 : Int64) (a6 : Int64) (a8 : Int64) (a10 : Int64) (s0 : Int32) (ph : px_H) : Option (Int32 × px_H) :=
  if a8 < a6 then
    f_M_rowError_132 F ph
  else
    if ((65536 : Int64)) < a8 then
      f_M_rowError_132 F ph
    else
      if a4 < (lN 0) then
        f_M_rowError_132 F ph
      else
        if ((140737488355328 : Int64)) < a4 then
          f_M_rowError_132 F ph
        else
          if s0 = 0 then
            f_M_rowError_132 F ph
          else
            if a10 = (lN 0) then
              f_M_rowError_157 F a0 a1 a2 a4 a6 a8 ph
            else
              if ((a4 - a2) &&& (a10 - (lN 1))) = (lN 0) then
                f_M_rowError_157 F a0 a1 a2 a4 a6 a8 ph
              else
                some (nI 4, ph)
theorem r_M_rowError_92 {l : Launch} {g : px_G} {d F : Nat} {a0 : Nat} {a1 : Int32} {a2 : Int64} {a4 : Int64} {a6 : Int64} {a8 : Int64} {a10 : Int64} {s0 : Int32} {ph : px_H} {r : Int32} {ph' : px_H} (h : f_M_rowError_92 F a0 a1 a2 a4 a6 a8 a10 s0 ph = some (r, ph')) : PW l g (d + 1) m_M_rowError 92 [.ref a0, .int a1, .long a2, px_u, .long a4, px_u, .long a6, px_u, .long a8, px_u, .long a10, px_u, px_u] [.int s0] ph (px_qI r ph') := by
  unfold f_M_rowError_92 at h
  refine px_st (lv' := [_, _, _, _, _, _, _, _, _, _, _, _, _]) rfl rfl rfl rfl rfl rfl rfl ?_
  refine px_ld rfl rfl rfl rfl rfl ?_
  refine px_ld rfl rfl rfl rfl rfl ?_
  refine px_alu rfl rfl rfl ?_
  refine px_iflt rfl (by decide) rfl (fun hc => ?_) (fun hc => ?_)
  · replace h := (if_pos ((lg_cmp_lt _ _).mp hc)).symm.trans h
    refine px_forget (n := 0) (lv' := [_, _, _, _, _, _, _, _, _, _, _, _, _]) rfl ?_
    refine px_forget (n := 1) (lv' := [_, _, _, _, _, _, _, _, _, _, _, _, _]) rfl ?_
    refine px_forget (n := 2) (lv' := [_, _, _, _, _, _, _, _, _, _, _, _, _]) rfl ?_
    refine px_forget (n := 4) (lv' := [_, _, _, _, _, _, _, _, _, _, _, _, _]) rfl ?_
    refine px_forget (n := 6) (lv' := [_, _, _, _, _, _, _, _, _, _, _, _, _]) rfl ?_
    refine px_forget (n := 8) (lv' := [_, _, _, _, _, _, _, _, _, _, _, _, _]) rfl ?_
    refine px_forget (n := 10) (lv' := [_, _, _, _, _, _, _, _, _, _, _, _, _]) rfl ?_
    refine px_forget (n := 12) (lv' := [_, _, _, _, _, _, _, _, _, _, _, _, _]) rfl ?_
    exact (r_M_rowError_132 h :)
  · replace h := (if_neg (fun q => hc ((lg_cmp_lt _ _).mpr q))).symm.trans h
    refine px_ld rfl rfl rfl rfl rfl ?_
    refine px_ldc2 rfl rfl rfl ?_
    refine px_alu rfl rfl rfl ?_
    refine px_ifgt rfl (by decide) rfl (fun hc => ?_) (fun hc => ?_)
    · replace h := (if_pos ((lg_cmp_gt _ _).mp hc)).symm.trans h
      refine px_forget (n := 0) (lv' := [_, _, _, _, _, _, _, _, _, _, _, _, _]) rfl ?_
      refine px_forget (n := 1) (lv' := [_, _, _, _, _, _, _, _, _, _, _, _, _]) rfl ?_
      refine px_forget (n := 2) (lv' := [_, _, _, _, _, _, _, _, _, _, _, _, _]) rfl ?_
      refine px_forget (n := 4) (lv' := [_, _, _, _, _, _, _, _, _, _, _, _, _]) rfl ?_
      refine px_forget (n := 6) (lv' := [_, _, _, _, _, _, _, _, _, _, _, _, _]) rfl ?_
      refine px_forget (n := 8) (lv' := [_, _, _, _, _, _, _, _, _, _, _, _, _]) rfl ?_
      refine px_forget (n := 10) (lv' := [_, _, _, _, _, _, _, _, _, _, _, _, _]) rfl ?_
      refine px_forget (n := 12) (lv' := [_, _, _, _, _, _, _, _, _, _, _, _, _]) rfl ?_
      exact (r_M_rowError_132 h :)
    · replace h := (if_neg (fun q => hc ((lg_cmp_gt _ _).mpr q))).symm.trans h
      refine px_ld rfl rfl rfl rfl rfl ?_
      refine px_alu rfl rfl rfl ?_
      refine px_alu rfl rfl rfl ?_
      refine px_iflt rfl (by decide) rfl (fun hc => ?_) (fun hc => ?_)
      · replace h := (if_pos ((lg_cmp_lt _ _).mp hc)).symm.trans h
        refine px_forget (n := 0) (lv' := [_, _, _, _, _, _, _, _, _, _, _, _, _]) rfl ?_
        refine px_forget (n := 1) (lv' := [_, _, _, _, _, _, _, _, _, _, _, _, _]) rfl ?_
        refine px_forget (n := 2) (lv' := [_, _, _, _, _, _, _, _, _, _, _, _, _]) rfl ?_
        refine px_forget (n := 4) (lv' := [_, _, _, _, _, _, _, _, _, _, _, _, _]) rfl ?_
        refine px_forget (n := 6) (lv' := [_, _, _, _, _, _, _, _, _, _, _, _, _]) rfl ?_
        refine px_forget (n := 8) (lv' := [_, _, _, _, _, _, _, _, _, _, _, _, _]) rfl ?_
        refine px_forget (n := 10) (lv' := [_, _, _, _, _, _, _, _, _, _, _, _, _]) rfl ?_
        refine px_forget (n := 12) (lv' := [_, _, _, _, _, _, _, _, _, _, _, _, _]) rfl ?_
        exact (r_M_rowError_132 h :)
      · replace h := (if_neg (fun q => hc ((lg_cmp_lt _ _).mpr q))).symm.trans h
        refine px_ld rfl rfl rfl rfl rfl ?_
        refine px_ldc2 rfl rfl rfl ?_
        refine px_alu rfl rfl rfl ?_
        refine px_ifgt rfl (by decide) rfl (fun hc => ?_) (fun hc => ?_)
        · replace h := (if_pos ((lg_cmp_gt _ _).mp hc)).symm.trans h
          refine px_forget (n := 0) (lv' := [_, _, _, _, _, _, _, _, _, _, _, _, _]) rfl ?_
          refine px_forget (n := 1) (lv' := [_, _, _, _, _, _, _, _, _, _, _, _, _]) rfl ?_
          refine px_forget (n := 2) (lv' := [_, _, _, _, _, _, _, _, _, _, _, _, _]) rfl ?_
          refine px_forget (n := 4) (lv' := [_, _, _, _, _, _, _, _, _, _, _, _, _]) rfl ?_
          refine px_forget (n := 6) (lv' := [_, _, _, _, _, _, _, _, _, _, _, _, _]) rfl ?_
          refine px_forget (n := 8) (lv' := [_, _, _, _, _, _, _, _, _, _, _, _, _]) rfl ?_
          refine px_forget (n := 10) (lv' := [_, _, _, _, _, _, _, _, _, _, _, _, _]) rfl ?_
          refine px_forget (n := 12) (lv' := [_, _, _, _, _, _, _, _, _, _, _, _, _]) rfl ?_
          exact (r_M_rowError_132 h :)
        · replace h := (if_neg (fun q => hc ((lg_cmp_gt _ _).mpr q))).symm.trans h
          refine px_ld rfl rfl rfl rfl rfl ?_
          refine px_ifne rfl (by decide) rfl (fun hc => ?_) (fun hc => ?_)
          · replace h := (if_neg hc).symm.trans h
            refine px_ld rfl rfl rfl rfl rfl ?_
            refine px_alu rfl rfl rfl ?_
            refine px_alu rfl rfl rfl ?_
            refine px_ifeq rfl (by decide) rfl (fun hc => ?_) (fun hc => ?_)
            · replace h := (if_pos ((lg_cmp_eq _ _).mp hc)).symm.trans h
              refine px_forget (n := 10) (lv' := [_, _, _, _, _, _, _, _, _, _, _, _, _]) rfl ?_
              refine px_forget (n := 12) (lv' := [_, _, _, _, _, _, _, _, _, _, _, _, _]) rfl ?_
              exact (r_M_rowError_157 h :)
            · replace h := (if_neg (fun q => hc ((lg_cmp_eq _ _).mpr q))).symm.trans h
              refine px_ld rfl rfl rfl rfl rfl ?_
              refine px_ld rfl rfl rfl rfl rfl ?_
              refine px_alu rfl rfl rfl ?_
              refine px_ld rfl rfl rfl rfl rfl ?_
              refine px_alu rfl rfl rfl ?_
              refine px_alu rfl rfl rfl ?_
              refine px_alu rfl rfl rfl ?_
              refine px_alu rfl rfl rfl ?_
              refine px_alu rfl rfl rfl ?_
              refine px_ifeq rfl (by decide) rfl (fun hc => ?_) (fun hc => ?_)
              · replace h := (if_pos ((lg_cmp_eq _ _).mp hc)).symm.trans h
                refine px_forget (n := 10) (lv' := [_, _, _, _, _, _, _, _, _, _, _, _, _]) rfl ?_
                refine px_forget (n := 12) (lv' := [_, _, _, _, _, _, _, _, _, _, _, _, _]) rfl ?_
                exact (r_M_rowError_157 h :)
              · replace h := (if_neg (fun q => hc ((lg_cmp_eq _ _).mpr q))).symm.trans h
                refine px_ic (k := 4) rfl rfl rfl ?_
                cases h
                exact px_iret rfl (Or.inl rfl) rfl ⟨rfl, rfl⟩
          · replace h := (if_pos hc).symm.trans h
            refine px_forget (n := 0) (lv' := [_, _, _, _, _, _, _, _, _, _, _, _, _]) rfl ?_
            refine px_forget (n := 1) (lv' := [_, _, _, _, _, _, _, _, _, _, _, _, _]) rfl ?_
            refine px_forget (n := 2) (lv' := [_, _, _, _, _, _, _, _, _, _, _, _, _]) rfl ?_
            refine px_forget (n := 4) (lv' := [_, _, _, _, _, _, _, _, _, _, _, _, _]) rfl ?_
            refine px_forget (n := 6) (lv' := [_, _, _, _, _, _, _, _, _, _, _, _, _]) rfl ?_
            refine px_forget (n := 8) (lv' := [_, _, _, _, _, _, _, _, _, _, _, _, _]) rfl ?_
            refine px_forget (n := 10) (lv' := [_, _, _, _, _, _, _, _, _, _, _, _, _]) rfl ?_
            refine px_forget (n := 12) (lv' := [_, _, _, _, _, _, _, _, _, _, _, _, _]) rfl ?_
            exact (r_M_rowError_132 h :)
def f_M_rowError (F : Nat) (a0 : Nat) (a1 : Int32) (ph : px_H) : Option (Int32 × px_H) :=
  (xo ph 12 a0).bind fun _ =>
  xb (f_M_triedNum F a0 (a1 + (nI 8)) (nI 8) ph) fun t1 ph2 =>
  (xo ph2 12 a0).bind fun _ =>
  xb (f_M_triedNum F a0 (a1 + (nI 16)) (nI 8) ph2) fun t3 ph4 =>
  (xo ph4 12 a0).bind fun _ =>
  xb (f_M_triedNum F a0 (a1 + (nI 32)) (nI 8) ph4) fun t5 ph6 =>
  (xo ph6 12 a0).bind fun _ =>
  xb (f_M_triedNum F a0 (a1 + (nI 40)) (nI 8) ph6) fun t7 ph8 =>
  (xo ph8 12 a0).bind fun _ =>
  xb (f_M_triedNum F a0 (a1 + (nI 48)) (nI 8) ph8) fun t9 ph10 =>
  (xgI ph10 12 101 a0).bind fun t11 =>
  xb (f_M_lies F t1 t5 t11.toInt64 ph10) fun t12 ph13 =>
  if t12 = 0 then
    some (nI 3, ph13)
  else
    if (t9 &&& (t9 - (lN 1))) = (lN 0) then
      f_M_rowError_92 F a0 a1 t1 t3 t5 t7 t9 (nI 1) ph13
    else
      f_M_rowError_92 F a0 a1 t1 t3 t5 t7 t9 (nI 0) ph13
theorem r_M_rowError {l : Launch} {g : px_G} {d F : Nat} {a0 : Nat} {a1 : Int32} {ph : px_H} {r : Int32} {ph' : px_H} (h : f_M_rowError F a0 a1 ph = some (r, ph')) : PW l g (d + 1) m_M_rowError 0 [.ref a0, .int a1, px_u, px_u, px_u, px_u, px_u, px_u, px_u, px_u, px_u, px_u, px_u] [] ph (px_qI r ph') := by
  unfold f_M_rowError at h
  refine px_ld rfl rfl rfl rfl rfl ?_
  refine px_ld rfl rfl rfl rfl rfl ?_
  refine px_ic (k := 8) rfl rfl rfl ?_
  refine px_alu rfl rfl rfl ?_
  refine px_ic (k := 8) rfl rfl rfl ?_
  obtain ⟨fs, h0, h⟩ := xs_some h
  have e1 := xo_some h0
  obtain ⟨t1, ph2, h0, h⟩ := xb_some h
  refine px_cV2 rfl rfl e1 rfl rfl rfl rfl rfl rfl rfl (r_M_triedNum h0 :) (fun _ _ q => nomatch q.2) (fun r ph' q => ?_)
  obtain ⟨rfl, q⟩ := q
  cases q
  refine px_st (lv' := [_, _, _, _, _, _, _, _, _, _, _, _, _]) rfl rfl rfl rfl rfl rfl rfl ?_
  refine px_ld rfl rfl rfl rfl rfl ?_
  refine px_ld rfl rfl rfl rfl rfl ?_
  refine px_ic (k := 16) rfl rfl rfl ?_
  refine px_alu rfl rfl rfl ?_
  refine px_ic (k := 8) rfl rfl rfl ?_
  obtain ⟨fs, h0, h⟩ := xs_some h
  have e1 := xo_some h0
  obtain ⟨t3, ph4, h0, h⟩ := xb_some h
  refine px_cV2 rfl rfl e1 rfl rfl rfl rfl rfl rfl rfl (r_M_triedNum h0 :) (fun _ _ q => nomatch q.2) (fun r ph' q => ?_)
  obtain ⟨rfl, q⟩ := q
  cases q
  refine px_st (lv' := [_, _, _, _, _, _, _, _, _, _, _, _, _]) rfl rfl rfl rfl rfl rfl rfl ?_
  refine px_ld rfl rfl rfl rfl rfl ?_
  refine px_ld rfl rfl rfl rfl rfl ?_
  refine px_ic (k := 32) rfl rfl rfl ?_
  refine px_alu rfl rfl rfl ?_
  refine px_ic (k := 8) rfl rfl rfl ?_
  obtain ⟨fs, h0, h⟩ := xs_some h
  have e1 := xo_some h0
  obtain ⟨t5, ph6, h0, h⟩ := xb_some h
  refine px_cV2 rfl rfl e1 rfl rfl rfl rfl rfl rfl rfl (r_M_triedNum h0 :) (fun _ _ q => nomatch q.2) (fun r ph' q => ?_)
  obtain ⟨rfl, q⟩ := q
  cases q
  refine px_st (lv' := [_, _, _, _, _, _, _, _, _, _, _, _, _]) rfl rfl rfl rfl rfl rfl rfl ?_
  refine px_ld rfl rfl rfl rfl rfl ?_
  refine px_ld rfl rfl rfl rfl rfl ?_
  refine px_ic (k := 40) rfl rfl rfl ?_
  refine px_alu rfl rfl rfl ?_
  refine px_ic (k := 8) rfl rfl rfl ?_
  obtain ⟨fs, h0, h⟩ := xs_some h
  have e1 := xo_some h0
  obtain ⟨t7, ph8, h0, h⟩ := xb_some h
  refine px_cV2 rfl rfl e1 rfl rfl rfl rfl rfl rfl rfl (r_M_triedNum h0 :) (fun _ _ q => nomatch q.2) (fun r ph' q => ?_)
  obtain ⟨rfl, q⟩ := q
  cases q
  refine px_st (lv' := [_, _, _, _, _, _, _, _, _, _, _, _, _]) rfl rfl rfl rfl rfl rfl rfl ?_
  refine px_ld rfl rfl rfl rfl rfl ?_
  refine px_ld rfl rfl rfl rfl rfl ?_
  refine px_ic (k := 48) rfl rfl rfl ?_
  refine px_alu rfl rfl rfl ?_
  refine px_ic (k := 8) rfl rfl rfl ?_
  obtain ⟨fs, h0, h⟩ := xs_some h
  have e1 := xo_some h0
  obtain ⟨t9, ph10, h0, h⟩ := xb_some h
  refine px_cV2 rfl rfl e1 rfl rfl rfl rfl rfl rfl rfl (r_M_triedNum h0 :) (fun _ _ q => nomatch q.2) (fun r ph' q => ?_)
  obtain ⟨rfl, q⟩ := q
  cases q
  refine px_st (lv' := [_, _, _, _, _, _, _, _, _, _, _, _, _]) rfl rfl rfl rfl rfl rfl rfl ?_
  refine px_ld rfl rfl rfl rfl rfl ?_
  refine px_ld rfl rfl rfl rfl rfl ?_
  refine px_ld rfl rfl rfl rfl rfl ?_
  obtain ⟨t11, h0, h⟩ := xs_some h
  obtain ⟨fs, e1, e2⟩ := xgI_some h0
  refine px_get rfl e1 e2 rfl ?_
  refine px_alu rfl rfl rfl ?_
  obtain ⟨t12, ph13, h0, h⟩ := xb_some h
  refine px_cS3 rfl rfl rfl rfl rfl rfl rfl (r_M_lies h0 :) (fun _ _ q => nomatch q.2) (fun r ph' q => ?_)
  obtain ⟨rfl, q⟩ := q
  cases q
  refine px_ifne rfl (by decide) rfl (fun hc => ?_) (fun hc => ?_)
  · replace h := (if_neg hc).symm.trans h
    refine px_ld rfl rfl rfl rfl rfl ?_
    refine px_ld rfl rfl rfl rfl rfl ?_
    refine px_alu rfl rfl rfl ?_
    refine px_alu rfl rfl rfl ?_
    refine px_alu rfl rfl rfl ?_
    refine px_alu rfl rfl rfl ?_
    refine px_alu rfl rfl rfl ?_
    refine px_ifne rfl (by decide) rfl (fun hc => ?_) (fun hc => ?_)
    · replace h := (if_neg (fun q => hc ((lg_cmp_eq _ _).mpr q))).symm.trans h
      refine px_ic (k := 0) rfl rfl rfl ?_
      exact (r_M_rowError_92 h :)
    · replace h := (if_pos ((lg_cmp_eq _ _).mp hc)).symm.trans h
      refine px_ic (k := 1) rfl rfl rfl ?_
      refine px_goto rfl (by decide) rfl ?_
      exact (r_M_rowError_92 h :)
  · replace h := (if_pos hc).symm.trans h
    refine px_ic (k := 3) rfl rfl rfl ?_
    cases h
    exact px_iret rfl (Or.inl rfl) rfl ⟨rfl, rfl⟩
def f_M_triedError_193 (F : Nat) (ph : px_H) : Option (Int32 × px_H) :=
  some (nI 6, ph)
theorem r_M_triedError_193 {l : Launch} {g : px_G} {d F : Nat} {ph : px_H} {r : Int32} {ph' : px_H} (h : f_M_triedError_193 F ph = some (r, ph')) : PW l g (d + 2) m_M_triedError 193 [px_u, px_u, px_u, px_u, px_u, px_u, px_u] [] ph (px_qI r ph') := by
  unfold f_M_triedError_193 at h
  refine px_ic (k := 6) rfl rfl rfl ?_
  cases h
  exact px_iret rfl (Or.inl rfl) rfl ⟨rfl, rfl⟩
def f_M_triedError_187 (F : Nat) (k128 : Nat → Int64 → Int32 → px_H → Option (Int32 × px_H)) (a0 : Nat) (a4 : Int64) (a6 : Int32) (ph : px_H) : Option (Int32 × px_H) :=
  k128 a0 a4 (a6 + nI 1) ph
theorem r_M_triedError_187 {l : Launch} {g : px_G} {d F : Nat} {k128 : Nat → Int64 → Int32 → px_H → Option (Int32 × px_H)} (hk128 : ∀ {a0 : Nat} {a4 : Int64} {a6 : Int32} {ph : px_H} {r : Int32} {ph' : px_H}, k128 a0 a4 a6 ph = some (r, ph') → PW l g (d + 2) m_M_triedError 128 [.ref a0, px_u, px_u, px_u, .long a4, px_u, .int a6] [] ph (px_qI r ph')) {a0 : Nat} {a4 : Int64} {a6 : Int32} {ph : px_H} {r : Int32} {ph' : px_H} (h : f_M_triedError_187 F k128 a0 a4 a6 ph = some (r, ph')) : PW l g (d + 2) m_M_triedError 187 [.ref a0, px_u, px_u, px_u, .long a4, px_u, .int a6] [] ph (px_qI r ph') := by
  unfold f_M_triedError_187 at h
  refine px_iinc (lv' := [_, _, _, _, _, _, _]) rfl rfl rfl rfl rfl rfl ?_
  refine px_goto rfl (by decide) rfl ?_
  exact (hk128 h :)
def f_M_triedError_185 (F : Nat) (ph : px_H) : Option (Int32 × px_H) :=
  some (nI 0, ph)
theorem r_M_triedError_185 {l : Launch} {g : px_G} {d F : Nat} {ph : px_H} {r : Int32} {ph' : px_H} (h : f_M_triedError_185 F ph = some (r, ph')) : PW l g (d + 2) m_M_triedError 185 [px_u, px_u, px_u, px_u, px_u, px_u, px_u] [] ph (px_qI r ph') := by
  unfold f_M_triedError_185 at h
  refine px_ic (k := 0) rfl rfl rfl ?_
  cases h
  exact px_iret rfl (Or.inl rfl) rfl ⟨rfl, rfl⟩
def f_M_triedError_128 (F : Nat) : Nat → Nat → Int64 → Int32 → px_H → Option (Int32 × px_H)
  | 0, _, _, _, _ => none
  | n + 1, a0, a4, a6, ph =>
    (xgI ph 12 115 a0).bind fun t1 =>
    if t1 ≤ a6 then
      f_M_triedError_193 F ph
    else
      (xgR ph 12 110 a0).bind fun t2 =>
      (xaJ ph 2 t2 a6).bind fun t3 =>
      if (t3 &&& (lN 1)) = (lN 1) then
        (xgR ph 12 112 a0).bind fun t4 =>
        (xaJ ph 2 t4 a6).bind fun t5 =>
        if a4 < t5 then
          f_M_triedError_187 F (f_M_triedError_128 F n) a0 a4 a6 ph
        else
          (xgR ph 12 112 a0).bind fun t6 =>
          (xaJ ph 2 t6 a6).bind fun t7 =>
          (xgR ph 12 114 a0).bind fun t8 =>
          (xaJ ph 2 t8 a6).bind fun t9 =>
          if (t7 + t9) ≤ a4 then
            f_M_triedError_187 F (f_M_triedError_128 F n) a0 a4 a6 ph
          else
            f_M_triedError_185 F ph
      else
        f_M_triedError_187 F (f_M_triedError_128 F n) a0 a4 a6 ph
theorem r_M_triedError_128 {l : Launch} {g : px_G} {d F : Nat} : ∀ (n : Nat) {a0 : Nat} {a4 : Int64} {a6 : Int32} {ph : px_H} {r : Int32} {ph' : px_H}, f_M_triedError_128 F n a0 a4 a6 ph = some (r, ph') → PW l g (d + 2) m_M_triedError 128 [.ref a0, px_u, px_u, px_u, .long a4, px_u, .int a6] [] ph (px_qI r ph') := by
  intro n
  induction n with
  | zero => intro _ _ _ _ _ _ h; cases h
  | succ n ih =>
    intro a0 a4 a6 ph r ph' h
    unfold f_M_triedError_128 at h
    refine px_ld rfl rfl rfl rfl rfl ?_
    refine px_ld rfl rfl rfl rfl rfl ?_
    obtain ⟨t1, h0, h⟩ := xs_some h
    obtain ⟨fs, e1, e2⟩ := xgI_some h0
    refine px_get rfl e1 e2 rfl ?_
    refine px_icge rfl (by decide) rfl (fun hc => ?_) (fun hc => ?_)
    · replace h := (if_pos hc).symm.trans h
      refine px_forget (n := 0) (lv' := [_, _, _, _, _, _, _]) rfl ?_
      refine px_forget (n := 4) (lv' := [_, _, _, _, _, _, _]) rfl ?_
      refine px_forget (n := 6) (lv' := [_, _, _, _, _, _, _]) rfl ?_
      exact (r_M_triedError_193 h :)
    · replace h := (if_neg hc).symm.trans h
      refine px_ld rfl rfl rfl rfl rfl ?_
      obtain ⟨t2, h0, h⟩ := xs_some h
      obtain ⟨fs, e1, e2⟩ := xgR_some h0
      refine px_get rfl e1 e2 rfl ?_
      refine px_ld rfl rfl rfl rfl rfl ?_
      obtain ⟨t3, h0, h⟩ := xs_some h
      obtain ⟨N, f, e1, e2, e3⟩ := xaJ_some h0
      subst e3
      refine px_lald rfl e1 rfl e2 rfl ?_
      refine px_alu rfl rfl rfl ?_
      refine px_alu rfl rfl rfl ?_
      refine px_alu rfl rfl rfl ?_
      refine px_alu rfl rfl rfl ?_
      refine px_ifne rfl (by decide) rfl (fun hc => ?_) (fun hc => ?_)
      · replace h := (if_neg (fun q => hc ((lg_cmp_eq _ _).mpr q))).symm.trans h
        exact (r_M_triedError_187 @ih h :)
      · replace h := (if_pos ((lg_cmp_eq _ _).mp hc)).symm.trans h
        refine px_ld rfl rfl rfl rfl rfl ?_
        refine px_ld rfl rfl rfl rfl rfl ?_
        obtain ⟨t4, h0, h⟩ := xs_some h
        obtain ⟨fs, e1, e2⟩ := xgR_some h0
        refine px_get rfl e1 e2 rfl ?_
        refine px_ld rfl rfl rfl rfl rfl ?_
        obtain ⟨t5, h0, h⟩ := xs_some h
        obtain ⟨N, f, e1, e2, e3⟩ := xaJ_some h0
        subst e3
        refine px_lald rfl e1 rfl e2 rfl ?_
        refine px_alu rfl rfl rfl ?_
        refine px_iflt rfl (by decide) rfl (fun hc => ?_) (fun hc => ?_)
        · replace h := (if_pos ((lg_cmp_lt _ _).mp hc)).symm.trans h
          exact (r_M_triedError_187 @ih h :)
        · replace h := (if_neg (fun q => hc ((lg_cmp_lt _ _).mpr q))).symm.trans h
          refine px_ld rfl rfl rfl rfl rfl ?_
          refine px_ld rfl rfl rfl rfl rfl ?_
          obtain ⟨t6, h0, h⟩ := xs_some h
          obtain ⟨fs, e1, e2⟩ := xgR_some h0
          refine px_get rfl e1 e2 rfl ?_
          refine px_ld rfl rfl rfl rfl rfl ?_
          obtain ⟨t7, h0, h⟩ := xs_some h
          obtain ⟨N, f, e1, e2, e3⟩ := xaJ_some h0
          subst e3
          refine px_lald rfl e1 rfl e2 rfl ?_
          refine px_ld rfl rfl rfl rfl rfl ?_
          obtain ⟨t8, h0, h⟩ := xs_some h
          obtain ⟨fs, e1, e2⟩ := xgR_some h0
          refine px_get rfl e1 e2 rfl ?_
          refine px_ld rfl rfl rfl rfl rfl ?_
          obtain ⟨t9, h0, h⟩ := xs_some h
          obtain ⟨N, f, e1, e2, e3⟩ := xaJ_some h0
          subst e3
          refine px_lald rfl e1 rfl e2 rfl ?_
          refine px_alu rfl rfl rfl ?_
          refine px_alu rfl rfl rfl ?_
          refine px_ifge rfl (by decide) rfl (fun hc => ?_) (fun hc => ?_)
          · replace h := (if_pos ((lg_cmp_ge _ _).mp hc)).symm.trans h
            exact (r_M_triedError_187 @ih h :)
          · replace h := (if_neg (fun q => hc ((lg_cmp_ge _ _).mpr q))).symm.trans h
            refine px_forget (n := 0) (lv' := [_, _, _, _, _, _, _]) rfl ?_
            refine px_forget (n := 4) (lv' := [_, _, _, _, _, _, _]) rfl ?_
            refine px_forget (n := 6) (lv' := [_, _, _, _, _, _, _]) rfl ?_
            exact (r_M_triedError_185 h :)
def f_M_triedError_115 (F : Nat) (a0 : Nat) (ph : px_H) : Option (Int32 × px_H) :=
  (xo ph 12 a0).bind fun _ =>
  xb (f_M_triedNum F a0 (nI 24) (nI 8) ph) fun t1 ph2 =>
  f_M_triedError_128 F F a0 t1 (nI 0) ph2
theorem r_M_triedError_115 {l : Launch} {g : px_G} {d F : Nat} {a0 : Nat} {ph : px_H} {r : Int32} {ph' : px_H} (h : f_M_triedError_115 F a0 ph = some (r, ph')) : PW l g (d + 2) m_M_triedError 115 [.ref a0, px_u, px_u, px_u, px_u, px_u, px_u] [] ph (px_qI r ph') := by
  unfold f_M_triedError_115 at h
  refine px_ld rfl rfl rfl rfl rfl ?_
  refine px_ic (k := 24) rfl rfl rfl ?_
  refine px_ic (k := 8) rfl rfl rfl ?_
  obtain ⟨fs, h0, h⟩ := xs_some h
  have e1 := xo_some h0
  obtain ⟨t1, ph2, h0, h⟩ := xb_some h
  refine px_cV2 rfl rfl e1 rfl rfl rfl rfl rfl rfl rfl (r_M_triedNum h0 :) (fun _ _ q => nomatch q.2) (fun r ph' q => ?_)
  obtain ⟨rfl, q⟩ := q
  cases q
  refine px_st (lv' := [_, _, _, _, _, _, _]) rfl rfl rfl rfl rfl rfl rfl ?_
  refine px_ic (k := 0) rfl rfl rfl ?_
  refine px_st (lv' := [_, _, _, _, _, _, _]) rfl rfl rfl rfl rfl rfl rfl ?_
  exact (r_M_triedError_128 _ h :)
def f_M_triedError_106 (F : Nat) (a6 : Int32) (ph : px_H) : Option (Int32 × px_H) :=
  some (a6, ph)
theorem r_M_triedError_106 {l : Launch} {g : px_G} {d F : Nat} {a6 : Int32} {ph : px_H} {r : Int32} {ph' : px_H} (h : f_M_triedError_106 F a6 ph = some (r, ph')) : PW l g (d + 2) m_M_triedError 106 [px_u, px_u, px_u, px_u, px_u, px_u, .int a6] [] ph (px_qI r ph') := by
  unfold f_M_triedError_106 at h
  refine px_ld rfl rfl rfl rfl rfl ?_
  cases h
  exact px_iret rfl (Or.inl rfl) rfl ⟨rfl, rfl⟩
def f_M_triedError_99 (F : Nat) (k61 : Nat → Int32 → Int64 → Int32 → px_H → Option (Int32 × px_H)) (a0 : Nat) (a1 : Int32) (a2 : Int64) (a4 : Int32) (s0 : Int32) (ph : px_H) : Option (Int32 × px_H) :=
  if s0 ≤ 0 then
    k61 a0 a1 a2 (a4 + nI 1) ph
  else
    f_M_triedError_106 F s0 ph
theorem r_M_triedError_99 {l : Launch} {g : px_G} {d F : Nat} {k61 : Nat → Int32 → Int64 → Int32 → px_H → Option (Int32 × px_H)} (hk61 : ∀ {a0 : Nat} {a1 : Int32} {a2 : Int64} {a4 : Int32} {ph : px_H} {r : Int32} {ph' : px_H}, k61 a0 a1 a2 a4 ph = some (r, ph') → PW l g (d + 2) m_M_triedError 61 [.ref a0, .int a1, .long a2, px_u, .int a4, px_u, px_u] [] ph (px_qI r ph')) {a0 : Nat} {a1 : Int32} {a2 : Int64} {a4 : Int32} {s0 : Int32} {ph : px_H} {r : Int32} {ph' : px_H} (h : f_M_triedError_99 F k61 a0 a1 a2 a4 s0 ph = some (r, ph')) : PW l g (d + 2) m_M_triedError 99 [.ref a0, .int a1, .long a2, px_u, .int a4, px_u, px_u] [.int s0] ph (px_qI r ph') := by
  unfold f_M_triedError_99 at h
  refine px_st (lv' := [_, _, _, _, _, _, _]) rfl rfl rfl rfl rfl rfl rfl ?_
  refine px_ld rfl rfl rfl rfl rfl ?_
  refine px_ifle rfl (by decide) rfl (fun hc => ?_) (fun hc => ?_)
  · replace h := (if_pos hc).symm.trans h
    refine px_iinc (lv' := [_, _, _, _, _, _, _]) rfl rfl rfl rfl rfl rfl ?_
    refine px_goto rfl (by decide) rfl ?_
    refine px_forget (n := 6) (lv' := [_, _, _, _, _, _, _]) rfl ?_
    exact (hk61 h :)
  · replace h := (if_neg hc).symm.trans h
    refine px_forget (n := 0) (lv' := [_, _, _, _, _, _, _]) rfl ?_
    refine px_forget (n := 1) (lv' := [_, _, _, _, _, _, _]) rfl ?_
    refine px_forget (n := 2) (lv' := [_, _, _, _, _, _, _]) rfl ?_
    refine px_forget (n := 4) (lv' := [_, _, _, _, _, _, _]) rfl ?_
    exact (r_M_triedError_106 h :)
def f_M_triedError_61 (F : Nat) : Nat → Nat → Int32 → Int64 → Int32 → px_H → Option (Int32 × px_H)
  | 0, _, _, _, _, _ => none
  | n + 1, a0, a1, a2, a4, ph =>
    if a1 ≤ a4 then
      f_M_triedError_115 F a0 ph
    else
      (xo ph 12 a0).bind fun _ =>
      xb (f_M_triedNum F a0 (a2.toInt32 + ((nI 56) * a4)) (nI 4) ph) fun t1 ph2 =>
      if t1 = (lN 1) then
        (xo ph2 12 a0).bind fun _ =>
        xb (f_M_rowError F a0 (a2.toInt32 + ((nI 56) * a4)) ph2) fun t3 ph4 =>
        f_M_triedError_99 F (f_M_triedError_61 F n) a0 a1 a2 a4 t3 ph4
      else
        f_M_triedError_99 F (f_M_triedError_61 F n) a0 a1 a2 a4 (nI 0) ph2
theorem r_M_triedError_61 {l : Launch} {g : px_G} {d F : Nat} : ∀ (n : Nat) {a0 : Nat} {a1 : Int32} {a2 : Int64} {a4 : Int32} {ph : px_H} {r : Int32} {ph' : px_H}, f_M_triedError_61 F n a0 a1 a2 a4 ph = some (r, ph') → PW l g (d + 2) m_M_triedError 61 [.ref a0, .int a1, .long a2, px_u, .int a4, px_u, px_u] [] ph (px_qI r ph') := by
  intro n
  induction n with
  | zero => intro _ _ _ _ _ _ _ h; cases h
  | succ n ih =>
    intro a0 a1 a2 a4 ph r ph' h
    unfold f_M_triedError_61 at h
    refine px_ld rfl rfl rfl rfl rfl ?_
    refine px_ld rfl rfl rfl rfl rfl ?_
    refine px_icge rfl (by decide) rfl (fun hc => ?_) (fun hc => ?_)
    · replace h := (if_pos hc).symm.trans h
      refine px_forget (n := 1) (lv' := [_, _, _, _, _, _, _]) rfl ?_
      refine px_forget (n := 2) (lv' := [_, _, _, _, _, _, _]) rfl ?_
      refine px_forget (n := 4) (lv' := [_, _, _, _, _, _, _]) rfl ?_
      exact (r_M_triedError_115 h :)
    · replace h := (if_neg hc).symm.trans h
      refine px_ld rfl rfl rfl rfl rfl ?_
      refine px_alu rfl rfl rfl ?_
      refine px_ic (k := 56) rfl rfl rfl ?_
      refine px_ld rfl rfl rfl rfl rfl ?_
      refine px_alu rfl rfl rfl ?_
      refine px_alu rfl rfl rfl ?_
      refine px_st (lv' := [_, _, _, _, _, _, _]) rfl rfl rfl rfl rfl rfl rfl ?_
      refine px_ld rfl rfl rfl rfl rfl ?_
      refine px_ld rfl rfl rfl rfl rfl ?_
      refine px_ic (k := 4) rfl rfl rfl ?_
      obtain ⟨fs, h0, h⟩ := xs_some h
      have e1 := xo_some h0
      obtain ⟨t1, ph2, h0, h⟩ := xb_some h
      refine px_cV2 rfl rfl e1 rfl rfl rfl rfl rfl rfl rfl (r_M_triedNum h0 :) (fun _ _ q => nomatch q.2) (fun r ph' q => ?_)
      obtain ⟨rfl, q⟩ := q
      cases q
      refine px_alu rfl rfl rfl ?_
      refine px_alu rfl rfl rfl ?_
      refine px_ifne rfl (by decide) rfl (fun hc => ?_) (fun hc => ?_)
      · replace h := (if_neg (fun q => hc ((lg_cmp_eq _ _).mpr q))).symm.trans h
        refine px_ic (k := 0) rfl rfl rfl ?_
        refine px_forget (n := 5) (lv' := [_, _, _, _, _, _, _]) rfl ?_
        exact (r_M_triedError_99 @ih h :)
      · replace h := (if_pos ((lg_cmp_eq _ _).mp hc)).symm.trans h
        refine px_ld rfl rfl rfl rfl rfl ?_
        refine px_ld rfl rfl rfl rfl rfl ?_
        obtain ⟨fs, h0, h⟩ := xs_some h
        have e1 := xo_some h0
        obtain ⟨t3, ph4, h0, h⟩ := xb_some h
        refine px_cV1 rfl rfl e1 rfl rfl rfl rfl rfl rfl rfl (r_M_rowError h0 :) (fun _ _ q => nomatch q.2) (fun r ph' q => ?_)
        obtain ⟨rfl, q⟩ := q
        cases q
        refine px_goto rfl (by decide) rfl ?_
        refine px_forget (n := 5) (lv' := [_, _, _, _, _, _, _]) rfl ?_
        exact (r_M_triedError_99 @ih h :)
def f_M_triedError_56 (F : Nat) (ph : px_H) : Option (Int32 × px_H) :=
  some (nI 2, ph)
theorem r_M_triedError_56 {l : Launch} {g : px_G} {d F : Nat} {ph : px_H} {r : Int32} {ph' : px_H} (h : f_M_triedError_56 F ph = some (r, ph')) : PW l g (d + 2) m_M_triedError 56 [px_u, px_u, px_u, px_u, px_u, px_u, px_u] [] ph (px_qI r ph') := by
  unfold f_M_triedError_56 at h
  refine px_ic (k := 2) rfl rfl rfl ?_
  cases h
  exact px_iret rfl (Or.inl rfl) rfl ⟨rfl, rfl⟩
def f_M_triedError (F : Nat) (a0 : Nat) (ph : px_H) : Option (Int32 × px_H) :=
  (xpI ph 12 115 a0 (nI 0)).bind fun ph1 =>
  (xo ph1 12 a0).bind fun _ =>
  xb (f_M_isExecutable F a0 ph1) fun t2 ph3 =>
  if t2 = 0 then
    some (nI 1, ph3)
  else
    (xo ph3 12 a0).bind fun _ =>
    xb (f_M_triedNum F a0 (nI 56) (nI 2) ph3) fun t4 ph5 =>
    (xo ph5 12 a0).bind fun _ =>
    xb (f_M_triedNum F a0 (nI 32) (nI 8) ph5) fun t6 ph7 =>
    if (nI 8) < t4.toInt32 then
      f_M_triedError_56 F ph7
    else
      (xgI ph7 12 101 a0).bind fun t8 =>
      xb (f_M_lies F t6 (((56 : Int64)) * t4.toInt32.toInt64) t8.toInt64 ph7) fun t9 ph10 =>
      if t9 = 0 then
        f_M_triedError_56 F ph10
      else
        f_M_triedError_61 F F a0 t4.toInt32 t6 (nI 0) ph10
theorem r_M_triedError {l : Launch} {g : px_G} {d F : Nat} {a0 : Nat} {ph : px_H} {r : Int32} {ph' : px_H} (h : f_M_triedError F a0 ph = some (r, ph')) : PW l g (d + 2) m_M_triedError 0 [.ref a0, px_u, px_u, px_u, px_u, px_u, px_u] [] ph (px_qI r ph') := by
  unfold f_M_triedError at h
  refine px_ld rfl rfl rfl rfl rfl ?_
  refine px_ic (k := 0) rfl rfl rfl ?_
  obtain ⟨ph1, h0, h⟩ := xs_some h
  obtain ⟨fs, e1, e2, e3⟩ := xpI_some h0
  subst e3
  refine px_put rfl e1 e2 trivial rfl ?_
  refine px_ld rfl rfl rfl rfl rfl ?_
  obtain ⟨fs, h0, h⟩ := xs_some h
  have e1 := xo_some h0
  obtain ⟨t2, ph3, h0, h⟩ := xb_some h
  refine px_cV0 rfl rfl e1 rfl rfl rfl rfl rfl rfl rfl (r_M_isExecutable h0 :) (fun _ _ q => nomatch q.2) (fun r ph' q => ?_)
  obtain ⟨rfl, q⟩ := q
  cases q
  refine px_ifne rfl (by decide) rfl (fun hc => ?_) (fun hc => ?_)
  · replace h := (if_neg hc).symm.trans h
    refine px_ld rfl rfl rfl rfl rfl ?_
    refine px_ic (k := 56) rfl rfl rfl ?_
    refine px_ic (k := 2) rfl rfl rfl ?_
    obtain ⟨fs, h0, h⟩ := xs_some h
    have e1 := xo_some h0
    obtain ⟨t4, ph5, h0, h⟩ := xb_some h
    refine px_cV2 rfl rfl e1 rfl rfl rfl rfl rfl rfl rfl (r_M_triedNum h0 :) (fun _ _ q => nomatch q.2) (fun r ph' q => ?_)
    obtain ⟨rfl, q⟩ := q
    cases q
    refine px_alu rfl rfl rfl ?_
    refine px_st (lv' := [_, _, _, _, _, _, _]) rfl rfl rfl rfl rfl rfl rfl ?_
    refine px_ld rfl rfl rfl rfl rfl ?_
    refine px_ic (k := 32) rfl rfl rfl ?_
    refine px_ic (k := 8) rfl rfl rfl ?_
    obtain ⟨fs, h0, h⟩ := xs_some h
    have e1 := xo_some h0
    obtain ⟨t6, ph7, h0, h⟩ := xb_some h
    refine px_cV2 rfl rfl e1 rfl rfl rfl rfl rfl rfl rfl (r_M_triedNum h0 :) (fun _ _ q => nomatch q.2) (fun r ph' q => ?_)
    obtain ⟨rfl, q⟩ := q
    cases q
    refine px_st (lv' := [_, _, _, _, _, _, _]) rfl rfl rfl rfl rfl rfl rfl ?_
    refine px_ld rfl rfl rfl rfl rfl ?_
    refine px_ic (k := 8) rfl rfl rfl ?_
    refine px_icgt rfl (by decide) rfl (fun hc => ?_) (fun hc => ?_)
    · replace h := (if_pos hc).symm.trans h
      refine px_forget (n := 0) (lv' := [_, _, _, _, _, _, _]) rfl ?_
      refine px_forget (n := 1) (lv' := [_, _, _, _, _, _, _]) rfl ?_
      refine px_forget (n := 2) (lv' := [_, _, _, _, _, _, _]) rfl ?_
      exact (r_M_triedError_56 h :)
    · replace h := (if_neg hc).symm.trans h
      refine px_ld rfl rfl rfl rfl rfl ?_
      refine px_ldc2 rfl rfl rfl ?_
      refine px_ld rfl rfl rfl rfl rfl ?_
      refine px_alu rfl rfl rfl ?_
      refine px_alu rfl rfl rfl ?_
      refine px_ld rfl rfl rfl rfl rfl ?_
      obtain ⟨t8, h0, h⟩ := xs_some h
      obtain ⟨fs, e1, e2⟩ := xgI_some h0
      refine px_get rfl e1 e2 rfl ?_
      refine px_alu rfl rfl rfl ?_
      obtain ⟨t9, ph10, h0, h⟩ := xb_some h
      refine px_cS3 rfl rfl rfl rfl rfl rfl rfl (r_M_lies h0 :) (fun _ _ q => nomatch q.2) (fun r ph' q => ?_)
      obtain ⟨rfl, q⟩ := q
      cases q
      refine px_ifne rfl (by decide) rfl (fun hc => ?_) (fun hc => ?_)
      · replace h := (if_neg hc).symm.trans h
        refine px_ic (k := 0) rfl rfl rfl ?_
        refine px_st (lv' := [_, _, _, _, _, _, _]) rfl rfl rfl rfl rfl rfl rfl ?_
        exact (r_M_triedError_61 _ h :)
      · replace h := (if_pos hc).symm.trans h
        refine px_forget (n := 0) (lv' := [_, _, _, _, _, _, _]) rfl ?_
        refine px_forget (n := 1) (lv' := [_, _, _, _, _, _, _]) rfl ?_
        refine px_forget (n := 2) (lv' := [_, _, _, _, _, _, _]) rfl ?_
        exact (r_M_triedError_56 h :)
  · replace h := (if_pos hc).symm.trans h
    refine px_ic (k := 1) rfl rfl rfl ?_
    cases h
    exact px_iret rfl (Or.inl rfl) rfl ⟨rfl, rfl⟩
def f_M_memorySymbol_118 (F : Nat) (ph : px_H) : Option (Unit × px_H) :=
  some ((), ph)
theorem r_M_memorySymbol_118 {l : Launch} {g : px_G} {d F : Nat} {ph : px_H} {r : Unit} {ph' : px_H} (h : f_M_memorySymbol_118 F ph = some (r, ph')) : PW l g (d + 1) m_M_memorySymbol 118 [px_u, px_u, px_u, px_u, px_u, px_u, px_u, px_u, px_u, px_u] [] ph (px_qV r ph') := by
  unfold f_M_memorySymbol_118 at h
  cases h
  exact px_vret rfl rfl rfl ⟨rfl, rfl⟩
def f_M_memorySymbol_94 (F : Nat) (a0 : Nat) (a1 : Int32) (a2 : Int64) (a4 : Int64) (a7 : Int64) (a9 : Int32) (ph : px_H) : Option (Unit × px_H) :=
  if a4 ≤ (a7 + a9.toInt64) then
    f_M_memorySymbol_118 F ph
  else
    if a9 = 0 then
      f_M_memorySymbol_118 F ph
    else
      if a9 ≤ (nI 20) then
        (xgR ph 12 45 a0).bind fun t1 =>
        (xgI ph 12 44 a0).bind fun t2 =>
        (xsI ph 1 t1 t2 ((a2 + a7).toInt32)).bind fun ph3 =>
        (xgR ph3 12 46 a0).bind fun t4 =>
        (xgI ph3 12 44 a0).bind fun t5 =>
        (xsI ph3 1 t4 t5 a9).bind fun ph6 =>
        (xgR ph6 12 47 a0).bind fun t7 =>
        (xgI ph6 12 44 a0).bind fun t8 =>
        (xo ph6 12 a0).bind fun _ =>
        xb (f_M_triedNum F a0 (a1 + (nI 8)) (nI 8) ph6) fun t9 ph10 =>
        (xsJ ph10 2 t7 t8 t9).bind fun ph11 =>
        (xgI ph11 12 44 a0).bind fun t12 =>
        (xpI ph11 12 44 a0 (t12 + (nI 1))).bind fun ph13 =>
        some ((), ph13)
      else
        f_M_memorySymbol_118 F ph
theorem r_M_memorySymbol_94 {l : Launch} {g : px_G} {d F : Nat} {a0 : Nat} {a1 : Int32} {a2 : Int64} {a4 : Int64} {a7 : Int64} {a9 : Int32} {ph : px_H} {r : Unit} {ph' : px_H} (h : f_M_memorySymbol_94 F a0 a1 a2 a4 a7 a9 ph = some (r, ph')) : PW l g (d + 1) m_M_memorySymbol 94 [.ref a0, .int a1, .long a2, px_u, .long a4, px_u, px_u, .long a7, px_u, .int a9] [] ph (px_qV r ph') := by
  unfold f_M_memorySymbol_94 at h
  refine px_ld rfl rfl rfl rfl rfl ?_
  refine px_ld rfl rfl rfl rfl rfl ?_
  refine px_alu rfl rfl rfl ?_
  refine px_alu rfl rfl rfl ?_
  refine px_ld rfl rfl rfl rfl rfl ?_
  refine px_alu rfl rfl rfl ?_
  refine px_ifge rfl (by decide) rfl (fun hc => ?_) (fun hc => ?_)
  · replace h := (if_pos ((lg_cmp_ge _ _).mp hc)).symm.trans h
    refine px_forget (n := 0) (lv' := [_, _, _, _, _, _, _, _, _, _]) rfl ?_
    refine px_forget (n := 1) (lv' := [_, _, _, _, _, _, _, _, _, _]) rfl ?_
    refine px_forget (n := 2) (lv' := [_, _, _, _, _, _, _, _, _, _]) rfl ?_
    refine px_forget (n := 4) (lv' := [_, _, _, _, _, _, _, _, _, _]) rfl ?_
    refine px_forget (n := 7) (lv' := [_, _, _, _, _, _, _, _, _, _]) rfl ?_
    refine px_forget (n := 9) (lv' := [_, _, _, _, _, _, _, _, _, _]) rfl ?_
    exact (r_M_memorySymbol_118 h :)
  · replace h := (if_neg (fun q => hc ((lg_cmp_ge _ _).mpr q))).symm.trans h
    refine px_ld rfl rfl rfl rfl rfl ?_
    refine px_ifeq rfl (by decide) rfl (fun hc => ?_) (fun hc => ?_)
    · replace h := (if_pos hc).symm.trans h
      refine px_forget (n := 0) (lv' := [_, _, _, _, _, _, _, _, _, _]) rfl ?_
      refine px_forget (n := 1) (lv' := [_, _, _, _, _, _, _, _, _, _]) rfl ?_
      refine px_forget (n := 2) (lv' := [_, _, _, _, _, _, _, _, _, _]) rfl ?_
      refine px_forget (n := 4) (lv' := [_, _, _, _, _, _, _, _, _, _]) rfl ?_
      refine px_forget (n := 7) (lv' := [_, _, _, _, _, _, _, _, _, _]) rfl ?_
      refine px_forget (n := 9) (lv' := [_, _, _, _, _, _, _, _, _, _]) rfl ?_
      exact (r_M_memorySymbol_118 h :)
    · replace h := (if_neg hc).symm.trans h
      refine px_ld rfl rfl rfl rfl rfl ?_
      refine px_ic (k := 20) rfl rfl rfl ?_
      refine px_icle rfl (by decide) rfl (fun hc => ?_) (fun hc => ?_)
      · replace h := (if_pos hc).symm.trans h
        refine px_ld rfl rfl rfl rfl rfl ?_
        obtain ⟨t1, h0, h⟩ := xs_some h
        obtain ⟨fs, e1, e2⟩ := xgR_some h0
        refine px_get rfl e1 e2 rfl ?_
        refine px_ld rfl rfl rfl rfl rfl ?_
        obtain ⟨t2, h0, h⟩ := xs_some h
        obtain ⟨fs, e1, e2⟩ := xgI_some h0
        refine px_get rfl e1 e2 rfl ?_
        refine px_ld rfl rfl rfl rfl rfl ?_
        refine px_ld rfl rfl rfl rfl rfl ?_
        refine px_alu rfl rfl rfl ?_
        refine px_alu rfl rfl rfl ?_
        obtain ⟨ph3, h0, h⟩ := xs_some h
        obtain ⟨N, f, e1, e2, e3⟩ := xsI_some h0
        subst e3
        refine px_iast rfl e1 rfl e2 rfl ?_
        refine px_ld rfl rfl rfl rfl rfl ?_
        obtain ⟨t4, h0, h⟩ := xs_some h
        obtain ⟨fs, e1, e2⟩ := xgR_some h0
        refine px_get rfl e1 e2 rfl ?_
        refine px_ld rfl rfl rfl rfl rfl ?_
        obtain ⟨t5, h0, h⟩ := xs_some h
        obtain ⟨fs, e1, e2⟩ := xgI_some h0
        refine px_get rfl e1 e2 rfl ?_
        refine px_ld rfl rfl rfl rfl rfl ?_
        obtain ⟨ph6, h0, h⟩ := xs_some h
        obtain ⟨N, f, e1, e2, e3⟩ := xsI_some h0
        subst e3
        refine px_iast rfl e1 rfl e2 rfl ?_
        refine px_ld rfl rfl rfl rfl rfl ?_
        obtain ⟨t7, h0, h⟩ := xs_some h
        obtain ⟨fs, e1, e2⟩ := xgR_some h0
        refine px_get rfl e1 e2 rfl ?_
        refine px_ld rfl rfl rfl rfl rfl ?_
        obtain ⟨t8, h0, h⟩ := xs_some h
        obtain ⟨fs, e1, e2⟩ := xgI_some h0
        refine px_get rfl e1 e2 rfl ?_
        refine px_ld rfl rfl rfl rfl rfl ?_
        refine px_ld rfl rfl rfl rfl rfl ?_
        refine px_ic (k := 8) rfl rfl rfl ?_
        refine px_alu rfl rfl rfl ?_
        refine px_ic (k := 8) rfl rfl rfl ?_
        obtain ⟨fs, h0, h⟩ := xs_some h
        have e1 := xo_some h0
        obtain ⟨t9, ph10, h0, h⟩ := xb_some h
        refine px_cV2 rfl rfl e1 rfl rfl rfl rfl rfl rfl rfl (r_M_triedNum h0 :) (fun _ _ q => nomatch q.2) (fun r ph' q => ?_)
        obtain ⟨rfl, q⟩ := q
        cases q
        obtain ⟨ph11, h0, h⟩ := xs_some h
        obtain ⟨N, f, e1, e2, e3⟩ := xsJ_some h0
        subst e3
        refine px_last rfl e1 rfl e2 rfl ?_
        refine px_ld rfl rfl rfl rfl rfl ?_
        refine px_alu rfl rfl rfl ?_
        obtain ⟨t12, h0, h⟩ := xs_some h
        obtain ⟨fs, e1, e2⟩ := xgI_some h0
        refine px_get rfl e1 e2 rfl ?_
        refine px_ic (k := 1) rfl rfl rfl ?_
        refine px_alu rfl rfl rfl ?_
        obtain ⟨ph13, h0, h⟩ := xs_some h
        obtain ⟨fs, e1, e2, e3⟩ := xpI_some h0
        subst e3
        refine px_put rfl e1 e2 trivial rfl ?_
        cases h
        exact px_vret rfl rfl rfl ⟨rfl, rfl⟩
      · replace h := (if_neg hc).symm.trans h
        refine px_forget (n := 0) (lv' := [_, _, _, _, _, _, _, _, _, _]) rfl ?_
        refine px_forget (n := 1) (lv' := [_, _, _, _, _, _, _, _, _, _]) rfl ?_
        refine px_forget (n := 2) (lv' := [_, _, _, _, _, _, _, _, _, _]) rfl ?_
        refine px_forget (n := 4) (lv' := [_, _, _, _, _, _, _, _, _, _]) rfl ?_
        refine px_forget (n := 7) (lv' := [_, _, _, _, _, _, _, _, _, _]) rfl ?_
        refine px_forget (n := 9) (lv' := [_, _, _, _, _, _, _, _, _, _]) rfl ?_
        exact (r_M_memorySymbol_118 h :)
def f_M_memorySymbol_53 (F : Nat) : Nat → Nat → Int32 → Int64 → Int64 → Int64 → Int32 → px_H → Option (Unit × px_H)
  | 0, _, _, _, _, _, _, _ => none
  | n + 1, a0, a1, a2, a4, a7, a9, ph =>
    if a4 ≤ (a7 + a9.toInt64) then
      f_M_memorySymbol_94 F a0 a1 a2 a4 a7 a9 ph
    else
      if (nI 20) < a9 then
        f_M_memorySymbol_94 F a0 a1 a2 a4 a7 a9 ph
      else
        (xgR ph 12 99 a0).bind fun t1 =>
        (xaI ph 0 t1 (((a2 + a7).toInt32) + a9)).bind fun t2 =>
        if t2 = 0 then
          f_M_memorySymbol_94 F a0 a1 a2 a4 a7 a9 ph
        else
          f_M_memorySymbol_53 F n a0 a1 a2 a4 a7 (a9 + nI 1) ph
theorem r_M_memorySymbol_53 {l : Launch} {g : px_G} {d F : Nat} : ∀ (n : Nat) {a0 : Nat} {a1 : Int32} {a2 : Int64} {a4 : Int64} {a7 : Int64} {a9 : Int32} {ph : px_H} {r : Unit} {ph' : px_H}, f_M_memorySymbol_53 F n a0 a1 a2 a4 a7 a9 ph = some (r, ph') → PW l g (d + 1) m_M_memorySymbol 53 [.ref a0, .int a1, .long a2, px_u, .long a4, px_u, px_u, .long a7, px_u, .int a9] [] ph (px_qV r ph') := by
  intro n
  induction n with
  | zero => intro _ _ _ _ _ _ _ _ _ h; cases h
  | succ n ih =>
    intro a0 a1 a2 a4 a7 a9 ph r ph' h
    unfold f_M_memorySymbol_53 at h
    refine px_ld rfl rfl rfl rfl rfl ?_
    refine px_ld rfl rfl rfl rfl rfl ?_
    refine px_alu rfl rfl rfl ?_
    refine px_alu rfl rfl rfl ?_
    refine px_ld rfl rfl rfl rfl rfl ?_
    refine px_alu rfl rfl rfl ?_
    refine px_ifge rfl (by decide) rfl (fun hc => ?_) (fun hc => ?_)
    · replace h := (if_pos ((lg_cmp_ge _ _).mp hc)).symm.trans h
      exact (r_M_memorySymbol_94 h :)
    · replace h := (if_neg (fun q => hc ((lg_cmp_ge _ _).mpr q))).symm.trans h
      refine px_ld rfl rfl rfl rfl rfl ?_
      refine px_ic (k := 20) rfl rfl rfl ?_
      refine px_icgt rfl (by decide) rfl (fun hc => ?_) (fun hc => ?_)
      · replace h := (if_pos hc).symm.trans h
        exact (r_M_memorySymbol_94 h :)
      · replace h := (if_neg hc).symm.trans h
        refine px_ld rfl rfl rfl rfl rfl ?_
        obtain ⟨t1, h0, h⟩ := xs_some h
        obtain ⟨fs, e1, e2⟩ := xgR_some h0
        refine px_get rfl e1 e2 rfl ?_
        refine px_ld rfl rfl rfl rfl rfl ?_
        refine px_ld rfl rfl rfl rfl rfl ?_
        refine px_alu rfl rfl rfl ?_
        refine px_alu rfl rfl rfl ?_
        refine px_ld rfl rfl rfl rfl rfl ?_
        refine px_alu rfl rfl rfl ?_
        obtain ⟨t2, h0, h⟩ := xs_some h
        obtain ⟨N, f, e1, e2, e3⟩ := xaI_some h0
        subst e3
        refine px_bald rfl e1 rfl e2 rfl ?_
        refine px_ifeq rfl (by decide) rfl (fun hc => ?_) (fun hc => ?_)
        · replace h := (if_pos hc).symm.trans h
          exact (r_M_memorySymbol_94 h :)
        · replace h := (if_neg hc).symm.trans h
          refine px_iinc (lv' := [_, _, _, _, _, _, _, _, _, _]) rfl rfl rfl rfl rfl rfl ?_
          refine px_goto rfl (by decide) rfl ?_
          exact (ih h :)
def f_M_memorySymbol_49 (F : Nat) (ph : px_H) : Option (Unit × px_H) :=
  some ((), ph)
theorem r_M_memorySymbol_49 {l : Launch} {g : px_G} {d F : Nat} {ph : px_H} {r : Unit} {ph' : px_H} (h : f_M_memorySymbol_49 F ph = some (r, ph')) : PW l g (d + 1) m_M_memorySymbol 49 [px_u, px_u, px_u, px_u, px_u, px_u, px_u, px_u, px_u, px_u] [] ph (px_qV r ph') := by
  unfold f_M_memorySymbol_49 at h
  cases h
  exact px_vret rfl rfl rfl ⟨rfl, rfl⟩
def f_M_memorySymbol_35 (F : Nat) (a0 : Nat) (a1 : Int32) (a2 : Int64) (a4 : Int64) (a7 : Int64) (ph : px_H) : Option (Unit × px_H) :=
  (xo ph 12 a0).bind fun _ =>
  xb (f_M_triedNum F a0 (a1 + (nI 6)) (nI 2) ph) fun t1 ph2 =>
  if t1 = (lN 0) then
    f_M_memorySymbol_49 F ph2
  else
    f_M_memorySymbol_53 F F a0 a1 a2 a4 a7 (nI 0) ph2
theorem r_M_memorySymbol_35 {l : Launch} {g : px_G} {d F : Nat} {a0 : Nat} {a1 : Int32} {a2 : Int64} {a4 : Int64} {a7 : Int64} {ph : px_H} {r : Unit} {ph' : px_H} (h : f_M_memorySymbol_35 F a0 a1 a2 a4 a7 ph = some (r, ph')) : PW l g (d + 1) m_M_memorySymbol 35 [.ref a0, .int a1, .long a2, px_u, .long a4, px_u, px_u, .long a7, px_u, px_u] [] ph (px_qV r ph') := by
  unfold f_M_memorySymbol_35 at h
  refine px_ld rfl rfl rfl rfl rfl ?_
  refine px_ld rfl rfl rfl rfl rfl ?_
  refine px_ic (k := 6) rfl rfl rfl ?_
  refine px_alu rfl rfl rfl ?_
  refine px_ic (k := 2) rfl rfl rfl ?_
  obtain ⟨fs, h0, h⟩ := xs_some h
  have e1 := xo_some h0
  obtain ⟨t1, ph2, h0, h⟩ := xb_some h
  refine px_cV2 rfl rfl e1 rfl rfl rfl rfl rfl rfl rfl (r_M_triedNum h0 :) (fun _ _ q => nomatch q.2) (fun r ph' q => ?_)
  obtain ⟨rfl, q⟩ := q
  cases q
  refine px_alu rfl rfl rfl ?_
  refine px_alu rfl rfl rfl ?_
  refine px_ifne rfl (by decide) rfl (fun hc => ?_) (fun hc => ?_)
  · replace h := (if_neg (fun q => hc ((lg_cmp_eq _ _).mpr q))).symm.trans h
    refine px_ic (k := 0) rfl rfl rfl ?_
    refine px_st (lv' := [_, _, _, _, _, _, _, _, _, _]) rfl rfl rfl rfl rfl rfl rfl ?_
    exact (r_M_memorySymbol_53 _ h :)
  · replace h := (if_pos ((lg_cmp_eq _ _).mp hc)).symm.trans h
    refine px_forget (n := 0) (lv' := [_, _, _, _, _, _, _, _, _, _]) rfl ?_
    refine px_forget (n := 1) (lv' := [_, _, _, _, _, _, _, _, _, _]) rfl ?_
    refine px_forget (n := 2) (lv' := [_, _, _, _, _, _, _, _, _, _]) rfl ?_
    refine px_forget (n := 4) (lv' := [_, _, _, _, _, _, _, _, _, _]) rfl ?_
    refine px_forget (n := 7) (lv' := [_, _, _, _, _, _, _, _, _, _]) rfl ?_
    exact (r_M_memorySymbol_49 h :)
def f_M_memorySymbol (F : Nat) (a0 : Nat) (a1 : Int32) (a2 : Int64) (a4 : Int64) (ph : px_H) : Option (Unit × px_H) :=
  (xgR ph 12 99 a0).bind fun t1 =>
  (xaI ph 0 t1 (a1 + (nI 4))).bind fun t2 =>
  (xo ph 12 a0).bind fun _ =>
  xb (f_M_triedNum F a0 a1 (nI 4) ph) fun t3 ph4 =>
  if ((t2 >>> ((nI 4) &&& 31)) &&& (nI 15)) = (nI 1) then
    f_M_memorySymbol_35 F a0 a1 a2 a4 t3 ph4
  else
    if ((t2 >>> ((nI 4) &&& 31)) &&& (nI 15)) = (nI 2) then
      f_M_memorySymbol_35 F a0 a1 a2 a4 t3 ph4
    else
      f_M_memorySymbol_49 F ph4
theorem r_M_memorySymbol {l : Launch} {g : px_G} {d F : Nat} {a0 : Nat} {a1 : Int32} {a2 : Int64} {a4 : Int64} {ph : px_H} {r : Unit} {ph' : px_H} (h : f_M_memorySymbol F a0 a1 a2 a4 ph = some (r, ph')) : PW l g (d + 1) m_M_memorySymbol 0 [.ref a0, .int a1, .long a2, px_u, .long a4, px_u, px_u, px_u, px_u, px_u] [] ph (px_qV r ph') := by
  unfold f_M_memorySymbol at h
  refine px_ld rfl rfl rfl rfl rfl ?_
  obtain ⟨t1, h0, h⟩ := xs_some h
  obtain ⟨fs, e1, e2⟩ := xgR_some h0
  refine px_get rfl e1 e2 rfl ?_
  refine px_ld rfl rfl rfl rfl rfl ?_
  refine px_ic (k := 4) rfl rfl rfl ?_
  refine px_alu rfl rfl rfl ?_
  obtain ⟨t2, h0, h⟩ := xs_some h
  obtain ⟨N, f, e1, e2, e3⟩ := xaI_some h0
  subst e3
  refine px_bald rfl e1 rfl e2 rfl ?_
  refine px_ic (k := 4) rfl rfl rfl ?_
  refine px_alu rfl rfl rfl ?_
  refine px_ic (k := 15) rfl rfl rfl ?_
  refine px_alu rfl rfl rfl ?_
  refine px_st (lv' := [_, _, _, _, _, _, _, _, _, _]) rfl rfl rfl rfl rfl rfl rfl ?_
  refine px_ld rfl rfl rfl rfl rfl ?_
  refine px_ld rfl rfl rfl rfl rfl ?_
  refine px_ic (k := 4) rfl rfl rfl ?_
  obtain ⟨fs, h0, h⟩ := xs_some h
  have e1 := xo_some h0
  obtain ⟨t3, ph4, h0, h⟩ := xb_some h
  refine px_cV2 rfl rfl e1 rfl rfl rfl rfl rfl rfl rfl (r_M_triedNum h0 :) (fun _ _ q => nomatch q.2) (fun r ph' q => ?_)
  obtain ⟨rfl, q⟩ := q
  cases q
  refine px_st (lv' := [_, _, _, _, _, _, _, _, _, _]) rfl rfl rfl rfl rfl rfl rfl ?_
  refine px_ld rfl rfl rfl rfl rfl ?_
  refine px_ic (k := 1) rfl rfl rfl ?_
  refine px_iceq rfl (by decide) rfl (fun hc => ?_) (fun hc => ?_)
  · replace h := (if_pos hc).symm.trans h
    refine px_forget (n := 6) (lv' := [_, _, _, _, _, _, _, _, _, _]) rfl ?_
    exact (r_M_memorySymbol_35 h :)
  · replace h := (if_neg hc).symm.trans h
    refine px_ld rfl rfl rfl rfl rfl ?_
    refine px_ic (k := 2) rfl rfl rfl ?_
    refine px_icne rfl (by decide) rfl (fun hc => ?_) (fun hc => ?_)
    · replace h := (if_neg hc).symm.trans h
      refine px_forget (n := 0) (lv' := [_, _, _, _, _, _, _, _, _, _]) rfl ?_
      refine px_forget (n := 1) (lv' := [_, _, _, _, _, _, _, _, _, _]) rfl ?_
      refine px_forget (n := 2) (lv' := [_, _, _, _, _, _, _, _, _, _]) rfl ?_
      refine px_forget (n := 4) (lv' := [_, _, _, _, _, _, _, _, _, _]) rfl ?_
      refine px_forget (n := 6) (lv' := [_, _, _, _, _, _, _, _, _, _]) rfl ?_
      refine px_forget (n := 7) (lv' := [_, _, _, _, _, _, _, _, _, _]) rfl ?_
      exact (r_M_memorySymbol_49 h :)
    · replace h := (if_pos hc).symm.trans h
      refine px_forget (n := 6) (lv' := [_, _, _, _, _, _, _, _, _, _]) rfl ?_
      exact (r_M_memorySymbol_35 h :)
def f_M_findMemoryNames_308 (F : Nat) (ph : px_H) : Option (Unit × px_H) :=
  some ((), ph)
theorem r_M_findMemoryNames_308 {l : Launch} {g : px_G} {d F : Nat} {ph : px_H} {r : Unit} {ph' : px_H} (h : f_M_findMemoryNames_308 F ph = some (r, ph')) : PW l g (d + 2) m_M_findMemoryNames 308 [px_u, px_u, px_u, px_u, px_u, px_u, px_u, px_u, px_u, px_u, px_u, px_u, px_u, px_u, px_u, px_u, px_u, px_u] [] ph (px_qV r ph') := by
  unfold f_M_findMemoryNames_308 at h
  cases h
  exact px_vret rfl rfl rfl ⟨rfl, rfl⟩
def f_M_findMemoryNames_273 (F : Nat) : Nat → Nat → Int64 → Int64 → Int64 → Int64 → Int32 → px_H → Option (Unit × px_H)
  | 0, _, _, _, _, _, _, _ => none
  | n + 1, a0, a6, a8, a13, a15, a17, ph =>
    if ((a8 / ((24 : Int64))).toInt32) ≤ a17 then
      f_M_findMemoryNames_308 F ph
    else
      (xo ph 12 a0).bind fun _ =>
      xb (f_M_memorySymbol F a0 (a6.toInt32 + ((nI 24) * a17)) a13 a15 ph) fun _ ph1 =>
      f_M_findMemoryNames_273 F n a0 a6 a8 a13 a15 (a17 + nI 1) ph1
theorem r_M_findMemoryNames_273 {l : Launch} {g : px_G} {d F : Nat} : ∀ (n : Nat) {a0 : Nat} {a6 : Int64} {a8 : Int64} {a13 : Int64} {a15 : Int64} {a17 : Int32} {ph : px_H} {r : Unit} {ph' : px_H}, f_M_findMemoryNames_273 F n a0 a6 a8 a13 a15 a17 ph = some (r, ph') → PW l g (d + 2) m_M_findMemoryNames 273 [.ref a0, px_u, px_u, px_u, px_u, px_u, .long a6, px_u, .long a8, px_u, px_u, px_u, px_u, .long a13, px_u, .long a15, px_u, .int a17] [] ph (px_qV r ph') := by
  intro n
  induction n with
  | zero => intro _ _ _ _ _ _ _ _ _ h; cases h
  | succ n ih =>
    intro a0 a6 a8 a13 a15 a17 ph r ph' h
    unfold f_M_findMemoryNames_273 at h
    refine px_ld rfl rfl rfl rfl rfl ?_
    refine px_ld rfl rfl rfl rfl rfl ?_
    refine px_ldc2 rfl rfl rfl ?_
    refine px_ldiv rfl (by decide) rfl ?_
    refine px_alu rfl rfl rfl ?_
    refine px_icge rfl (by decide) rfl (fun hc => ?_) (fun hc => ?_)
    · replace h := (if_pos hc).symm.trans h
      refine px_forget (n := 0) (lv' := [_, _, _, _, _, _, _, _, _, _, _, _, _, _, _, _, _, _]) rfl ?_
      refine px_forget (n := 6) (lv' := [_, _, _, _, _, _, _, _, _, _, _, _, _, _, _, _, _, _]) rfl ?_
      refine px_forget (n := 8) (lv' := [_, _, _, _, _, _, _, _, _, _, _, _, _, _, _, _, _, _]) rfl ?_
      refine px_forget (n := 13) (lv' := [_, _, _, _, _, _, _, _, _, _, _, _, _, _, _, _, _, _]) rfl ?_
      refine px_forget (n := 15) (lv' := [_, _, _, _, _, _, _, _, _, _, _, _, _, _, _, _, _, _]) rfl ?_
      refine px_forget (n := 17) (lv' := [_, _, _, _, _, _, _, _, _, _, _, _, _, _, _, _, _, _]) rfl ?_
      exact (r_M_findMemoryNames_308 h :)
    · replace h := (if_neg hc).symm.trans h
      refine px_ld rfl rfl rfl rfl rfl ?_
      refine px_ld rfl rfl rfl rfl rfl ?_
      refine px_alu rfl rfl rfl ?_
      refine px_ic (k := 24) rfl rfl rfl ?_
      refine px_ld rfl rfl rfl rfl rfl ?_
      refine px_alu rfl rfl rfl ?_
      refine px_alu rfl rfl rfl ?_
      refine px_ld rfl rfl rfl rfl rfl ?_
      refine px_ld rfl rfl rfl rfl rfl ?_
      obtain ⟨fs, h0, h⟩ := xs_some h
      have e1 := xo_some h0
      obtain ⟨u0, ph1, h0, h⟩ := xb_some h
      refine px_cV3 rfl rfl e1 rfl rfl rfl rfl rfl rfl rfl (r_M_memorySymbol h0 :) (fun _ _ q => nomatch q.2) (fun r ph' q => ?_)
      obtain ⟨rfl, q⟩ := q
      cases q
      refine px_iinc (lv' := [_, _, _, _, _, _, _, _, _, _, _, _, _, _, _, _, _, _]) rfl rfl rfl rfl rfl rfl ?_
      refine px_goto rfl (by decide) rfl ?_
      exact (ih h :)
def f_M_findMemoryNames_269 (F : Nat) (ph : px_H) : Option (Unit × px_H) :=
  some ((), ph)
theorem r_M_findMemoryNames_269 {l : Launch} {g : px_G} {d F : Nat} {ph : px_H} {r : Unit} {ph' : px_H} (h : f_M_findMemoryNames_269 F ph = some (r, ph')) : PW l g (d + 2) m_M_findMemoryNames 269 [px_u, px_u, px_u, px_u, px_u, px_u, px_u, px_u, px_u, px_u, px_u, px_u, px_u, px_u, px_u, px_u, px_u, px_u] [] ph (px_qV r ph') := by
  unfold f_M_findMemoryNames_269 at h
  cases h
  exact px_vret rfl rfl rfl ⟨rfl, rfl⟩
def f_M_findMemoryNames_200 (F : Nat) (ph : px_H) : Option (Unit × px_H) :=
  some ((), ph)
theorem r_M_findMemoryNames_200 {l : Launch} {g : px_G} {d F : Nat} {ph : px_H} {r : Unit} {ph' : px_H} (h : f_M_findMemoryNames_200 F ph = some (r, ph')) : PW l g (d + 2) m_M_findMemoryNames 200 [px_u, px_u, px_u, px_u, px_u, px_u, px_u, px_u, px_u, px_u, px_u, px_u, px_u, px_u, px_u, px_u, px_u, px_u] [] ph (px_qV r ph') := by
  unfold f_M_findMemoryNames_200 at h
  cases h
  exact px_vret rfl rfl rfl ⟨rfl, rfl⟩
def f_M_findMemoryNames_104 (F : Nat) (a0 : Nat) (a1 : Int32) (a2 : Int64) (a4 : Int32) (ph : px_H) : Option (Unit × px_H) :=
  if a4 = a1 then
    some ((), ph)
  else
    (xo ph 12 a0).bind fun _ =>
    xb (f_M_triedNum F a0 ((a2.toInt32 + ((nI 64) * a4)) + (nI 24)) (nI 8) ph) fun t1 ph2 =>
    (xo ph2 12 a0).bind fun _ =>
    xb (f_M_triedNum F a0 ((a2.toInt32 + ((nI 64) * a4)) + (nI 32)) (nI 8) ph2) fun t3 ph4 =>
    (xo ph4 12 a0).bind fun _ =>
    xb (f_M_triedNum F a0 ((a2.toInt32 + ((nI 64) * a4)) + (nI 40)) (nI 4) ph4) fun t5 ph6 =>
    if t3 ≤ (lN 0) then
      f_M_findMemoryNames_200 F ph6
    else
      if (t3 - t3 / ((24 : Int64)) * ((24 : Int64))) = (lN 0) then
        if a1.toInt64 ≤ t5 then
          f_M_findMemoryNames_200 F ph6
        else
          (xgI ph6 12 101 a0).bind fun t7 =>
          xb (f_M_lies F t1 t3 t7.toInt64 ph6) fun t8 ph9 =>
          if t8 = 0 then
            f_M_findMemoryNames_200 F ph9
          else
            (xo ph9 12 a0).bind fun _ =>
            xb (f_M_triedNum F a0 ((a2.toInt32 + ((nI 64) * t5.toInt32)) + (nI 24)) (nI 8) ph9) fun t10 ph11 =>
            (xo ph11 12 a0).bind fun _ =>
            xb (f_M_triedNum F a0 ((a2.toInt32 + ((nI 64) * t5.toInt32)) + (nI 32)) (nI 8) ph11) fun t12 ph13 =>
            (xo ph13 12 a0).bind fun _ =>
            xb (f_M_triedNum F a0 ((a2.toInt32 + ((nI 64) * t5.toInt32)) + (nI 4)) (nI 4) ph13) fun t14 ph15 =>
            if t14 = ((3 : Int64)) then
              (xgI ph15 12 101 a0).bind fun t16 =>
              xb (f_M_lies F t10 t12 t16.toInt64 ph15) fun t17 ph18 =>
              if t17 = 0 then
                f_M_findMemoryNames_269 F ph18
              else
                f_M_findMemoryNames_273 F F a0 t1 t3 t10 t12 (nI 1) ph18
            else
              f_M_findMemoryNames_269 F ph15
      else
        f_M_findMemoryNames_200 F ph6
theorem r_M_findMemoryNames_104 {l : Launch} {g : px_G} {d F : Nat} {a0 : Nat} {a1 : Int32} {a2 : Int64} {a4 : Int32} {ph : px_H} {r : Unit} {ph' : px_H} (h : f_M_findMemoryNames_104 F a0 a1 a2 a4 ph = some (r, ph')) : PW l g (d + 2) m_M_findMemoryNames 104 [.ref a0, .int a1, .long a2, px_u, .int a4, px_u, px_u, px_u, px_u, px_u, px_u, px_u, px_u, px_u, px_u, px_u, px_u, px_u] [] ph (px_qV r ph') := by
  unfold f_M_findMemoryNames_104 at h
  refine px_ld rfl rfl rfl rfl rfl ?_
  refine px_ld rfl rfl rfl rfl rfl ?_
  refine px_icne rfl (by decide) rfl (fun hc => ?_) (fun hc => ?_)
  · replace h := (if_neg hc).symm.trans h
    refine px_ld rfl rfl rfl rfl rfl ?_
    refine px_alu rfl rfl rfl ?_
    refine px_ic (k := 64) rfl rfl rfl ?_
    refine px_ld rfl rfl rfl rfl rfl ?_
    refine px_alu rfl rfl rfl ?_
    refine px_alu rfl rfl rfl ?_
    refine px_st (lv' := [_, _, _, _, _, _, _, _, _, _, _, _, _, _, _, _, _, _]) rfl rfl rfl rfl rfl rfl rfl ?_
    refine px_ld rfl rfl rfl rfl rfl ?_
    refine px_ld rfl rfl rfl rfl rfl ?_
    refine px_ic (k := 24) rfl rfl rfl ?_
    refine px_alu rfl rfl rfl ?_
    refine px_ic (k := 8) rfl rfl rfl ?_
    obtain ⟨fs, h0, h⟩ := xs_some h
    have e1 := xo_some h0
    obtain ⟨t1, ph2, h0, h⟩ := xb_some h
    refine px_cV2 rfl rfl e1 rfl rfl rfl rfl rfl rfl rfl (r_M_triedNum h0 :) (fun _ _ q => nomatch q.2) (fun r ph' q => ?_)
    obtain ⟨rfl, q⟩ := q
    cases q
    refine px_st (lv' := [_, _, _, _, _, _, _, _, _, _, _, _, _, _, _, _, _, _]) rfl rfl rfl rfl rfl rfl rfl ?_
    refine px_ld rfl rfl rfl rfl rfl ?_
    refine px_ld rfl rfl rfl rfl rfl ?_
    refine px_ic (k := 32) rfl rfl rfl ?_
    refine px_alu rfl rfl rfl ?_
    refine px_ic (k := 8) rfl rfl rfl ?_
    obtain ⟨fs, h0, h⟩ := xs_some h
    have e1 := xo_some h0
    obtain ⟨t3, ph4, h0, h⟩ := xb_some h
    refine px_cV2 rfl rfl e1 rfl rfl rfl rfl rfl rfl rfl (r_M_triedNum h0 :) (fun _ _ q => nomatch q.2) (fun r ph' q => ?_)
    obtain ⟨rfl, q⟩ := q
    cases q
    refine px_st (lv' := [_, _, _, _, _, _, _, _, _, _, _, _, _, _, _, _, _, _]) rfl rfl rfl rfl rfl rfl rfl ?_
    refine px_ld rfl rfl rfl rfl rfl ?_
    refine px_ld rfl rfl rfl rfl rfl ?_
    refine px_ic (k := 40) rfl rfl rfl ?_
    refine px_alu rfl rfl rfl ?_
    refine px_ic (k := 4) rfl rfl rfl ?_
    obtain ⟨fs, h0, h⟩ := xs_some h
    have e1 := xo_some h0
    obtain ⟨t5, ph6, h0, h⟩ := xb_some h
    refine px_cV2 rfl rfl e1 rfl rfl rfl rfl rfl rfl rfl (r_M_triedNum h0 :) (fun _ _ q => nomatch q.2) (fun r ph' q => ?_)
    obtain ⟨rfl, q⟩ := q
    cases q
    refine px_st (lv' := [_, _, _, _, _, _, _, _, _, _, _, _, _, _, _, _, _, _]) rfl rfl rfl rfl rfl rfl rfl ?_
    refine px_ld rfl rfl rfl rfl rfl ?_
    refine px_alu rfl rfl rfl ?_
    refine px_alu rfl rfl rfl ?_
    refine px_ifle rfl (by decide) rfl (fun hc => ?_) (fun hc => ?_)
    · replace h := (if_pos ((lg_cmp_le _ _).mp hc)).symm.trans h
      refine px_forget (n := 0) (lv' := [_, _, _, _, _, _, _, _, _, _, _, _, _, _, _, _, _, _]) rfl ?_
      refine px_forget (n := 1) (lv' := [_, _, _, _, _, _, _, _, _, _, _, _, _, _, _, _, _, _]) rfl ?_
      refine px_forget (n := 2) (lv' := [_, _, _, _, _, _, _, _, _, _, _, _, _, _, _, _, _, _]) rfl ?_
      refine px_forget (n := 4) (lv' := [_, _, _, _, _, _, _, _, _, _, _, _, _, _, _, _, _, _]) rfl ?_
      refine px_forget (n := 5) (lv' := [_, _, _, _, _, _, _, _, _, _, _, _, _, _, _, _, _, _]) rfl ?_
      refine px_forget (n := 6) (lv' := [_, _, _, _, _, _, _, _, _, _, _, _, _, _, _, _, _, _]) rfl ?_
      refine px_forget (n := 8) (lv' := [_, _, _, _, _, _, _, _, _, _, _, _, _, _, _, _, _, _]) rfl ?_
      refine px_forget (n := 10) (lv' := [_, _, _, _, _, _, _, _, _, _, _, _, _, _, _, _, _, _]) rfl ?_
      exact (r_M_findMemoryNames_200 h :)
    · replace h := (if_neg (fun q => hc ((lg_cmp_le _ _).mpr q))).symm.trans h
      refine px_ld rfl rfl rfl rfl rfl ?_
      refine px_ldc2 rfl rfl rfl ?_
      refine px_lrem rfl (by decide) rfl ?_
      refine px_alu rfl rfl rfl ?_
      refine px_alu rfl rfl rfl ?_
      refine px_ifne rfl (by decide) rfl (fun hc => ?_) (fun hc => ?_)
      · replace h := (if_neg (fun q => hc ((lg_cmp_eq _ _).mpr q))).symm.trans h
        refine px_forget (n := 0) (lv' := [_, _, _, _, _, _, _, _, _, _, _, _, _, _, _, _, _, _]) rfl ?_
        refine px_forget (n := 1) (lv' := [_, _, _, _, _, _, _, _, _, _, _, _, _, _, _, _, _, _]) rfl ?_
        refine px_forget (n := 2) (lv' := [_, _, _, _, _, _, _, _, _, _, _, _, _, _, _, _, _, _]) rfl ?_
        refine px_forget (n := 4) (lv' := [_, _, _, _, _, _, _, _, _, _, _, _, _, _, _, _, _, _]) rfl ?_
        refine px_forget (n := 5) (lv' := [_, _, _, _, _, _, _, _, _, _, _, _, _, _, _, _, _, _]) rfl ?_
        refine px_forget (n := 6) (lv' := [_, _, _, _, _, _, _, _, _, _, _, _, _, _, _, _, _, _]) rfl ?_
        refine px_forget (n := 8) (lv' := [_, _, _, _, _, _, _, _, _, _, _, _, _, _, _, _, _, _]) rfl ?_
        refine px_forget (n := 10) (lv' := [_, _, _, _, _, _, _, _, _, _, _, _, _, _, _, _, _, _]) rfl ?_
        exact (r_M_findMemoryNames_200 h :)
      · replace h := (if_pos ((lg_cmp_eq _ _).mp hc)).symm.trans h
        refine px_ld rfl rfl rfl rfl rfl ?_
        refine px_ld rfl rfl rfl rfl rfl ?_
        refine px_alu rfl rfl rfl ?_
        refine px_alu rfl rfl rfl ?_
        refine px_ifge rfl (by decide) rfl (fun hc => ?_) (fun hc => ?_)
        · replace h := (if_pos ((lg_cmp_ge _ _).mp hc)).symm.trans h
          refine px_forget (n := 0) (lv' := [_, _, _, _, _, _, _, _, _, _, _, _, _, _, _, _, _, _]) rfl ?_
          refine px_forget (n := 1) (lv' := [_, _, _, _, _, _, _, _, _, _, _, _, _, _, _, _, _, _]) rfl ?_
          refine px_forget (n := 2) (lv' := [_, _, _, _, _, _, _, _, _, _, _, _, _, _, _, _, _, _]) rfl ?_
          refine px_forget (n := 4) (lv' := [_, _, _, _, _, _, _, _, _, _, _, _, _, _, _, _, _, _]) rfl ?_
          refine px_forget (n := 5) (lv' := [_, _, _, _, _, _, _, _, _, _, _, _, _, _, _, _, _, _]) rfl ?_
          refine px_forget (n := 6) (lv' := [_, _, _, _, _, _, _, _, _, _, _, _, _, _, _, _, _, _]) rfl ?_
          refine px_forget (n := 8) (lv' := [_, _, _, _, _, _, _, _, _, _, _, _, _, _, _, _, _, _]) rfl ?_
          refine px_forget (n := 10) (lv' := [_, _, _, _, _, _, _, _, _, _, _, _, _, _, _, _, _, _]) rfl ?_
          exact (r_M_findMemoryNames_200 h :)
        · replace h := (if_neg (fun q => hc ((lg_cmp_ge _ _).mpr q))).symm.trans h
          refine px_ld rfl rfl rfl rfl rfl ?_
          refine px_ld rfl rfl rfl rfl rfl ?_
          refine px_ld rfl rfl rfl rfl rfl ?_
          obtain ⟨t7, h0, h⟩ := xs_some h
          obtain ⟨fs, e1, e2⟩ := xgI_some h0
          refine px_get rfl e1 e2 rfl ?_
          refine px_alu rfl rfl rfl ?_
          obtain ⟨t8, ph9, h0, h⟩ := xb_some h
          refine px_cS3 rfl rfl rfl rfl rfl rfl rfl (r_M_lies h0 :) (fun _ _ q => nomatch q.2) (fun r ph' q => ?_)
          obtain ⟨rfl, q⟩ := q
          cases q
          refine px_ifne rfl (by decide) rfl (fun hc => ?_) (fun hc => ?_)
          · replace h := (if_neg hc).symm.trans h
            refine px_ld rfl rfl rfl rfl rfl ?_
            refine px_alu rfl rfl rfl ?_
            refine px_ic (k := 64) rfl rfl rfl ?_
            refine px_ld rfl rfl rfl rfl rfl ?_
            refine px_alu rfl rfl rfl ?_
            refine px_alu rfl rfl rfl ?_
            refine px_alu rfl rfl rfl ?_
            refine px_st (lv' := [_, _, _, _, _, _, _, _, _, _, _, _, _, _, _, _, _, _]) rfl rfl rfl rfl rfl rfl rfl ?_
            refine px_ld rfl rfl rfl rfl rfl ?_
            refine px_ld rfl rfl rfl rfl rfl ?_
            refine px_ic (k := 24) rfl rfl rfl ?_
            refine px_alu rfl rfl rfl ?_
            refine px_ic (k := 8) rfl rfl rfl ?_
            obtain ⟨fs, h0, h⟩ := xs_some h
            have e1 := xo_some h0
            obtain ⟨t10, ph11, h0, h⟩ := xb_some h
            refine px_cV2 rfl rfl e1 rfl rfl rfl rfl rfl rfl rfl (r_M_triedNum h0 :) (fun _ _ q => nomatch q.2) (fun r ph' q => ?_)
            obtain ⟨rfl, q⟩ := q
            cases q
            refine px_st (lv' := [_, _, _, _, _, _, _, _, _, _, _, _, _, _, _, _, _, _]) rfl rfl rfl rfl rfl rfl rfl ?_
            refine px_ld rfl rfl rfl rfl rfl ?_
            refine px_ld rfl rfl rfl rfl rfl ?_
            refine px_ic (k := 32) rfl rfl rfl ?_
            refine px_alu rfl rfl rfl ?_
            refine px_ic (k := 8) rfl rfl rfl ?_
            obtain ⟨fs, h0, h⟩ := xs_some h
            have e1 := xo_some h0
            obtain ⟨t12, ph13, h0, h⟩ := xb_some h
            refine px_cV2 rfl rfl e1 rfl rfl rfl rfl rfl rfl rfl (r_M_triedNum h0 :) (fun _ _ q => nomatch q.2) (fun r ph' q => ?_)
            obtain ⟨rfl, q⟩ := q
            cases q
            refine px_st (lv' := [_, _, _, _, _, _, _, _, _, _, _, _, _, _, _, _, _, _]) rfl rfl rfl rfl rfl rfl rfl ?_
            refine px_ld rfl rfl rfl rfl rfl ?_
            refine px_ld rfl rfl rfl rfl rfl ?_
            refine px_ic (k := 4) rfl rfl rfl ?_
            refine px_alu rfl rfl rfl ?_
            refine px_ic (k := 4) rfl rfl rfl ?_
            obtain ⟨fs, h0, h⟩ := xs_some h
            have e1 := xo_some h0
            obtain ⟨t14, ph15, h0, h⟩ := xb_some h
            refine px_cV2 rfl rfl e1 rfl rfl rfl rfl rfl rfl rfl (r_M_triedNum h0 :) (fun _ _ q => nomatch q.2) (fun r ph' q => ?_)
            obtain ⟨rfl, q⟩ := q
            cases q
            refine px_ldc2 rfl rfl rfl ?_
            refine px_alu rfl rfl rfl ?_
            refine px_ifne rfl (by decide) rfl (fun hc => ?_) (fun hc => ?_)
            · replace h := (if_neg (fun q => hc ((lg_cmp_eq _ _).mpr q))).symm.trans h
              refine px_forget (n := 0) (lv' := [_, _, _, _, _, _, _, _, _, _, _, _, _, _, _, _, _, _]) rfl ?_
              refine px_forget (n := 1) (lv' := [_, _, _, _, _, _, _, _, _, _, _, _, _, _, _, _, _, _]) rfl ?_
              refine px_forget (n := 2) (lv' := [_, _, _, _, _, _, _, _, _, _, _, _, _, _, _, _, _, _]) rfl ?_
              refine px_forget (n := 4) (lv' := [_, _, _, _, _, _, _, _, _, _, _, _, _, _, _, _, _, _]) rfl ?_
              refine px_forget (n := 5) (lv' := [_, _, _, _, _, _, _, _, _, _, _, _, _, _, _, _, _, _]) rfl ?_
              refine px_forget (n := 6) (lv' := [_, _, _, _, _, _, _, _, _, _, _, _, _, _, _, _, _, _]) rfl ?_
              refine px_forget (n := 8) (lv' := [_, _, _, _, _, _, _, _, _, _, _, _, _, _, _, _, _, _]) rfl ?_
              refine px_forget (n := 10) (lv' := [_, _, _, _, _, _, _, _, _, _, _, _, _, _, _, _, _, _]) rfl ?_
              refine px_forget (n := 12) (lv' := [_, _, _, _, _, _, _, _, _, _, _, _, _, _, _, _, _, _]) rfl ?_
              refine px_forget (n := 13) (lv' := [_, _, _, _, _, _, _, _, _, _, _, _, _, _, _, _, _, _]) rfl ?_
              refine px_forget (n := 15) (lv' := [_, _, _, _, _, _, _, _, _, _, _, _, _, _, _, _, _, _]) rfl ?_
              exact (r_M_findMemoryNames_269 h :)
            · replace h := (if_pos ((lg_cmp_eq _ _).mp hc)).symm.trans h
              refine px_ld rfl rfl rfl rfl rfl ?_
              refine px_ld rfl rfl rfl rfl rfl ?_
              refine px_ld rfl rfl rfl rfl rfl ?_
              obtain ⟨t16, h0, h⟩ := xs_some h
              obtain ⟨fs, e1, e2⟩ := xgI_some h0
              refine px_get rfl e1 e2 rfl ?_
              refine px_alu rfl rfl rfl ?_
              obtain ⟨t17, ph18, h0, h⟩ := xb_some h
              refine px_cS3 rfl rfl rfl rfl rfl rfl rfl (r_M_lies h0 :) (fun _ _ q => nomatch q.2) (fun r ph' q => ?_)
              obtain ⟨rfl, q⟩ := q
              cases q
              refine px_ifne rfl (by decide) rfl (fun hc => ?_) (fun hc => ?_)
              · replace h := (if_neg hc).symm.trans h
                refine px_ic (k := 1) rfl rfl rfl ?_
                refine px_st (lv' := [_, _, _, _, _, _, _, _, _, _, _, _, _, _, _, _, _, _]) rfl rfl rfl rfl rfl rfl rfl ?_
                refine px_forget (n := 1) (lv' := [_, _, _, _, _, _, _, _, _, _, _, _, _, _, _, _, _, _]) rfl ?_
                refine px_forget (n := 2) (lv' := [_, _, _, _, _, _, _, _, _, _, _, _, _, _, _, _, _, _]) rfl ?_
                refine px_forget (n := 4) (lv' := [_, _, _, _, _, _, _, _, _, _, _, _, _, _, _, _, _, _]) rfl ?_
                refine px_forget (n := 5) (lv' := [_, _, _, _, _, _, _, _, _, _, _, _, _, _, _, _, _, _]) rfl ?_
                refine px_forget (n := 10) (lv' := [_, _, _, _, _, _, _, _, _, _, _, _, _, _, _, _, _, _]) rfl ?_
                refine px_forget (n := 12) (lv' := [_, _, _, _, _, _, _, _, _, _, _, _, _, _, _, _, _, _]) rfl ?_
                exact (r_M_findMemoryNames_273 _ h :)
              · replace h := (if_pos hc).symm.trans h
                refine px_forget (n := 0) (lv' := [_, _, _, _, _, _, _, _, _, _, _, _, _, _, _, _, _, _]) rfl ?_
                refine px_forget (n := 1) (lv' := [_, _, _, _, _, _, _, _, _, _, _, _, _, _, _, _, _, _]) rfl ?_
                refine px_forget (n := 2) (lv' := [_, _, _, _, _, _, _, _, _, _, _, _, _, _, _, _, _, _]) rfl ?_
                refine px_forget (n := 4) (lv' := [_, _, _, _, _, _, _, _, _, _, _, _, _, _, _, _, _, _]) rfl ?_
                refine px_forget (n := 5) (lv' := [_, _, _, _, _, _, _, _, _, _, _, _, _, _, _, _, _, _]) rfl ?_
                refine px_forget (n := 6) (lv' := [_, _, _, _, _, _, _, _, _, _, _, _, _, _, _, _, _, _]) rfl ?_
                refine px_forget (n := 8) (lv' := [_, _, _, _, _, _, _, _, _, _, _, _, _, _, _, _, _, _]) rfl ?_
                refine px_forget (n := 10) (lv' := [_, _, _, _, _, _, _, _, _, _, _, _, _, _, _, _, _, _]) rfl ?_
                refine px_forget (n := 12) (lv' := [_, _, _, _, _, _, _, _, _, _, _, _, _, _, _, _, _, _]) rfl ?_
                refine px_forget (n := 13) (lv' := [_, _, _, _, _, _, _, _, _, _, _, _, _, _, _, _, _, _]) rfl ?_
                refine px_forget (n := 15) (lv' := [_, _, _, _, _, _, _, _, _, _, _, _, _, _, _, _, _, _]) rfl ?_
                exact (r_M_findMemoryNames_269 h :)
          · replace h := (if_pos hc).symm.trans h
            refine px_forget (n := 0) (lv' := [_, _, _, _, _, _, _, _, _, _, _, _, _, _, _, _, _, _]) rfl ?_
            refine px_forget (n := 1) (lv' := [_, _, _, _, _, _, _, _, _, _, _, _, _, _, _, _, _, _]) rfl ?_
            refine px_forget (n := 2) (lv' := [_, _, _, _, _, _, _, _, _, _, _, _, _, _, _, _, _, _]) rfl ?_
            refine px_forget (n := 4) (lv' := [_, _, _, _, _, _, _, _, _, _, _, _, _, _, _, _, _, _]) rfl ?_
            refine px_forget (n := 5) (lv' := [_, _, _, _, _, _, _, _, _, _, _, _, _, _, _, _, _, _]) rfl ?_
            refine px_forget (n := 6) (lv' := [_, _, _, _, _, _, _, _, _, _, _, _, _, _, _, _, _, _]) rfl ?_
            refine px_forget (n := 8) (lv' := [_, _, _, _, _, _, _, _, _, _, _, _, _, _, _, _, _, _]) rfl ?_
            refine px_forget (n := 10) (lv' := [_, _, _, _, _, _, _, _, _, _, _, _, _, _, _, _, _, _]) rfl ?_
            exact (r_M_findMemoryNames_200 h :)
  · replace h := (if_pos hc).symm.trans h
    cases h
    exact px_vret rfl rfl rfl ⟨rfl, rfl⟩
def f_M_findMemoryNames_70 (F : Nat) : Nat → Nat → Int32 → Int64 → Int32 → px_H → Option (Unit × px_H)
  | 0, _, _, _, _, _ => none
  | n + 1, a0, a1, a2, a4, ph =>
    if a1 ≤ a4 then
      f_M_findMemoryNames_104 F a0 a1 a2 a4 ph
    else
      (xo ph 12 a0).bind fun _ =>
      xb (f_M_triedNum F a0 ((a2.toInt32 + ((nI 64) * a4)) + (nI 4)) (nI 4) ph) fun t1 ph2 =>
      if t1 = ((2 : Int64)) then
        f_M_findMemoryNames_104 F a0 a1 a2 a4 ph2
      else
        f_M_findMemoryNames_70 F n a0 a1 a2 (a4 + nI 1) ph2
theorem r_M_findMemoryNames_70 {l : Launch} {g : px_G} {d F : Nat} : ∀ (n : Nat) {a0 : Nat} {a1 : Int32} {a2 : Int64} {a4 : Int32} {ph : px_H} {r : Unit} {ph' : px_H}, f_M_findMemoryNames_70 F n a0 a1 a2 a4 ph = some (r, ph') → PW l g (d + 2) m_M_findMemoryNames 70 [.ref a0, .int a1, .long a2, px_u, .int a4, px_u, px_u, px_u, px_u, px_u, px_u, px_u, px_u, px_u, px_u, px_u, px_u, px_u] [] ph (px_qV r ph') := by
  intro n
  induction n with
  | zero => intro _ _ _ _ _ _ _ h; cases h
  | succ n ih =>
    intro a0 a1 a2 a4 ph r ph' h
    unfold f_M_findMemoryNames_70 at h
    refine px_ld rfl rfl rfl rfl rfl ?_
    refine px_ld rfl rfl rfl rfl rfl ?_
    refine px_icge rfl (by decide) rfl (fun hc => ?_) (fun hc => ?_)
    · replace h := (if_pos hc).symm.trans h
      exact (r_M_findMemoryNames_104 h :)
    · replace h := (if_neg hc).symm.trans h
      refine px_ld rfl rfl rfl rfl rfl ?_
      refine px_ld rfl rfl rfl rfl rfl ?_
      refine px_alu rfl rfl rfl ?_
      refine px_ic (k := 64) rfl rfl rfl ?_
      refine px_ld rfl rfl rfl rfl rfl ?_
      refine px_alu rfl rfl rfl ?_
      refine px_alu rfl rfl rfl ?_
      refine px_ic (k := 4) rfl rfl rfl ?_
      refine px_alu rfl rfl rfl ?_
      refine px_ic (k := 4) rfl rfl rfl ?_
      obtain ⟨fs, h0, h⟩ := xs_some h
      have e1 := xo_some h0
      obtain ⟨t1, ph2, h0, h⟩ := xb_some h
      refine px_cV2 rfl rfl e1 rfl rfl rfl rfl rfl rfl rfl (r_M_triedNum h0 :) (fun _ _ q => nomatch q.2) (fun r ph' q => ?_)
      obtain ⟨rfl, q⟩ := q
      cases q
      refine px_ldc2 rfl rfl rfl ?_
      refine px_alu rfl rfl rfl ?_
      refine px_ifeq rfl (by decide) rfl (fun hc => ?_) (fun hc => ?_)
      · replace h := (if_pos ((lg_cmp_eq _ _).mp hc)).symm.trans h
        exact (r_M_findMemoryNames_104 h :)
      · replace h := (if_neg (fun q => hc ((lg_cmp_eq _ _).mpr q))).symm.trans h
        refine px_iinc (lv' := [_, _, _, _, _, _, _, _, _, _, _, _, _, _, _, _, _, _]) rfl rfl rfl rfl rfl rfl ?_
        refine px_goto rfl (by decide) rfl ?_
        exact (ih h :)
def f_M_findMemoryNames_66 (F : Nat) (ph : px_H) : Option (Unit × px_H) :=
  some ((), ph)
theorem r_M_findMemoryNames_66 {l : Launch} {g : px_G} {d F : Nat} {ph : px_H} {r : Unit} {ph' : px_H} (h : f_M_findMemoryNames_66 F ph = some (r, ph')) : PW l g (d + 2) m_M_findMemoryNames 66 [px_u, px_u, px_u, px_u, px_u, px_u, px_u, px_u, px_u, px_u, px_u, px_u, px_u, px_u, px_u, px_u, px_u, px_u] [] ph (px_qV r ph') := by
  unfold f_M_findMemoryNames_66 at h
  cases h
  exact px_vret rfl rfl rfl ⟨rfl, rfl⟩
def f_M_findMemoryNames (F : Nat) (a0 : Nat) (ph : px_H) : Option (Unit × px_H) :=
  (xpI ph 12 44 a0 (nI 0)).bind fun ph1 =>
  (xo ph1 12 a0).bind fun _ =>
  xb (f_M_triedNum F a0 (nI 60) (nI 2) ph1) fun t2 ph3 =>
  (xo ph3 12 a0).bind fun _ =>
  xb (f_M_triedNum F a0 (nI 40) (nI 8) ph3) fun t4 ph5 =>
  (xo ph5 12 a0).bind fun _ =>
  xb (f_M_triedNum F a0 (nI 58) (nI 2) ph5) fun t6 ph7 =>
  if t6 = ((64 : Int64)) then
    if t2.toInt32 < (nI 1) then
      f_M_findMemoryNames_66 F ph7
    else
      if (nI 24) < t2.toInt32 then
        f_M_findMemoryNames_66 F ph7
      else
        (xgI ph7 12 101 a0).bind fun t8 =>
        xb (f_M_lies F t4 (((64 : Int64)) * t2.toInt32.toInt64) t8.toInt64 ph7) fun t9 ph10 =>
        if t9 = 0 then
          f_M_findMemoryNames_66 F ph10
        else
          f_M_findMemoryNames_70 F F a0 t2.toInt32 t4 (nI 0) ph10
  else
    f_M_findMemoryNames_66 F ph7
theorem r_M_findMemoryNames {l : Launch} {g : px_G} {d F : Nat} {a0 : Nat} {ph : px_H} {r : Unit} {ph' : px_H} (h : f_M_findMemoryNames F a0 ph = some (r, ph')) : PW l g (d + 2) m_M_findMemoryNames 0 [.ref a0, px_u, px_u, px_u, px_u, px_u, px_u, px_u, px_u, px_u, px_u, px_u, px_u, px_u, px_u, px_u, px_u, px_u] [] ph (px_qV r ph') := by
  unfold f_M_findMemoryNames at h
  refine px_ld rfl rfl rfl rfl rfl ?_
  refine px_ic (k := 0) rfl rfl rfl ?_
  obtain ⟨ph1, h0, h⟩ := xs_some h
  obtain ⟨fs, e1, e2, e3⟩ := xpI_some h0
  subst e3
  refine px_put rfl e1 e2 trivial rfl ?_
  refine px_ld rfl rfl rfl rfl rfl ?_
  refine px_ic (k := 60) rfl rfl rfl ?_
  refine px_ic (k := 2) rfl rfl rfl ?_
  obtain ⟨fs, h0, h⟩ := xs_some h
  have e1 := xo_some h0
  obtain ⟨t2, ph3, h0, h⟩ := xb_some h
  refine px_cV2 rfl rfl e1 rfl rfl rfl rfl rfl rfl rfl (r_M_triedNum h0 :) (fun _ _ q => nomatch q.2) (fun r ph' q => ?_)
  obtain ⟨rfl, q⟩ := q
  cases q
  refine px_alu rfl rfl rfl ?_
  refine px_st (lv' := [_, _, _, _, _, _, _, _, _, _, _, _, _, _, _, _, _, _]) rfl rfl rfl rfl rfl rfl rfl ?_
  refine px_ld rfl rfl rfl rfl rfl ?_
  refine px_ic (k := 40) rfl rfl rfl ?_
  refine px_ic (k := 8) rfl rfl rfl ?_
  obtain ⟨fs, h0, h⟩ := xs_some h
  have e1 := xo_some h0
  obtain ⟨t4, ph5, h0, h⟩ := xb_some h
  refine px_cV2 rfl rfl e1 rfl rfl rfl rfl rfl rfl rfl (r_M_triedNum h0 :) (fun _ _ q => nomatch q.2) (fun r ph' q => ?_)
  obtain ⟨rfl, q⟩ := q
  cases q
  refine px_st (lv' := [_, _, _, _, _, _, _, _, _, _, _, _, _, _, _, _, _, _]) rfl rfl rfl rfl rfl rfl rfl ?_
  refine px_ld rfl rfl rfl rfl rfl ?_
  refine px_ic (k := 58) rfl rfl rfl ?_
  refine px_ic (k := 2) rfl rfl rfl ?_
  obtain ⟨fs, h0, h⟩ := xs_some h
  have e1 := xo_some h0
  obtain ⟨t6, ph7, h0, h⟩ := xb_some h
  refine px_cV2 rfl rfl e1 rfl rfl rfl rfl rfl rfl rfl (r_M_triedNum h0 :) (fun _ _ q => nomatch q.2) (fun r ph' q => ?_)
  obtain ⟨rfl, q⟩ := q
  cases q
  refine px_ldc2 rfl rfl rfl ?_
  refine px_alu rfl rfl rfl ?_
  refine px_ifne rfl (by decide) rfl (fun hc => ?_) (fun hc => ?_)
  · replace h := (if_neg (fun q => hc ((lg_cmp_eq _ _).mpr q))).symm.trans h
    refine px_forget (n := 0) (lv' := [_, _, _, _, _, _, _, _, _, _, _, _, _, _, _, _, _, _]) rfl ?_
    refine px_forget (n := 1) (lv' := [_, _, _, _, _, _, _, _, _, _, _, _, _, _, _, _, _, _]) rfl ?_
    refine px_forget (n := 2) (lv' := [_, _, _, _, _, _, _, _, _, _, _, _, _, _, _, _, _, _]) rfl ?_
    exact (r_M_findMemoryNames_66 h :)
  · replace h := (if_pos ((lg_cmp_eq _ _).mp hc)).symm.trans h
    refine px_ld rfl rfl rfl rfl rfl ?_
    refine px_ic (k := 1) rfl rfl rfl ?_
    refine px_iclt rfl (by decide) rfl (fun hc => ?_) (fun hc => ?_)
    · replace h := (if_pos hc).symm.trans h
      refine px_forget (n := 0) (lv' := [_, _, _, _, _, _, _, _, _, _, _, _, _, _, _, _, _, _]) rfl ?_
      refine px_forget (n := 1) (lv' := [_, _, _, _, _, _, _, _, _, _, _, _, _, _, _, _, _, _]) rfl ?_
      refine px_forget (n := 2) (lv' := [_, _, _, _, _, _, _, _, _, _, _, _, _, _, _, _, _, _]) rfl ?_
      exact (r_M_findMemoryNames_66 h :)
    · replace h := (if_neg hc).symm.trans h
      refine px_ld rfl rfl rfl rfl rfl ?_
      refine px_ic (k := 24) rfl rfl rfl ?_
      refine px_icgt rfl (by decide) rfl (fun hc => ?_) (fun hc => ?_)
      · replace h := (if_pos hc).symm.trans h
        refine px_forget (n := 0) (lv' := [_, _, _, _, _, _, _, _, _, _, _, _, _, _, _, _, _, _]) rfl ?_
        refine px_forget (n := 1) (lv' := [_, _, _, _, _, _, _, _, _, _, _, _, _, _, _, _, _, _]) rfl ?_
        refine px_forget (n := 2) (lv' := [_, _, _, _, _, _, _, _, _, _, _, _, _, _, _, _, _, _]) rfl ?_
        exact (r_M_findMemoryNames_66 h :)
      · replace h := (if_neg hc).symm.trans h
        refine px_ld rfl rfl rfl rfl rfl ?_
        refine px_ldc2 rfl rfl rfl ?_
        refine px_ld rfl rfl rfl rfl rfl ?_
        refine px_alu rfl rfl rfl ?_
        refine px_alu rfl rfl rfl ?_
        refine px_ld rfl rfl rfl rfl rfl ?_
        obtain ⟨t8, h0, h⟩ := xs_some h
        obtain ⟨fs, e1, e2⟩ := xgI_some h0
        refine px_get rfl e1 e2 rfl ?_
        refine px_alu rfl rfl rfl ?_
        obtain ⟨t9, ph10, h0, h⟩ := xb_some h
        refine px_cS3 rfl rfl rfl rfl rfl rfl rfl (r_M_lies h0 :) (fun _ _ q => nomatch q.2) (fun r ph' q => ?_)
        obtain ⟨rfl, q⟩ := q
        cases q
        refine px_ifne rfl (by decide) rfl (fun hc => ?_) (fun hc => ?_)
        · replace h := (if_neg hc).symm.trans h
          refine px_ic (k := 0) rfl rfl rfl ?_
          refine px_st (lv' := [_, _, _, _, _, _, _, _, _, _, _, _, _, _, _, _, _, _]) rfl rfl rfl rfl rfl rfl rfl ?_
          exact (r_M_findMemoryNames_70 _ h :)
        · replace h := (if_pos hc).symm.trans h
          refine px_forget (n := 0) (lv' := [_, _, _, _, _, _, _, _, _, _, _, _, _, _, _, _, _, _]) rfl ?_
          refine px_forget (n := 1) (lv' := [_, _, _, _, _, _, _, _, _, _, _, _, _, _, _, _, _, _]) rfl ?_
          refine px_forget (n := 2) (lv' := [_, _, _, _, _, _, _, _, _, _, _, _, _, _, _, _, _, _]) rfl ?_
          exact (r_M_findMemoryNames_66 h :)
def f_M_boot_222 (F : Nat) (ph : px_H) : Option (Int32 × px_H) :=
  some (nI 0, ph)
theorem r_M_boot_222 {l : Launch} {g : px_G} {d F : Nat} {ph : px_H} {r : Int32} {ph' : px_H} (h : f_M_boot_222 F ph = some (r, ph')) : PW l g (d + 3) m_M_boot 222 [px_u, px_u, px_u] [] ph (px_qI r ph') := by
  unfold f_M_boot_222 at h
  refine px_ic (k := 0) rfl rfl rfl ?_
  cases h
  exact px_iret rfl (Or.inl rfl) rfl ⟨rfl, rfl⟩
def f_M_boot_148 (F : Nat) : Nat → Nat → Int32 → px_H → Option (Int32 × px_H)
  | 0, _, _, _ => none
  | n + 1, a0, a2, ph =>
    (xgI ph 12 102 a0).bind fun t1 =>
    if t1 ≤ a2 then
      f_M_boot_222 F ph
    else
      (xgR ph 12 105 a0).bind fun t2 =>
      (xgR ph 12 110 a0).bind fun t3 =>
      (xaJ ph 2 t3 a2).bind fun t4 =>
      (xsJ ph 2 t2 a2 t4).bind fun ph5 =>
      (xgR ph5 12 106 a0).bind fun t6 =>
      (xgR ph5 12 111 a0).bind fun t7 =>
      (xaJ ph5 2 t7 a2).bind fun t8 =>
      (xsJ ph5 2 t6 a2 t8).bind fun ph9 =>
      (xgR ph9 12 107 a0).bind fun t10 =>
      (xgR ph9 12 112 a0).bind fun t11 =>
      (xaJ ph9 2 t11 a2).bind fun t12 =>
      (xsJ ph9 2 t10 a2 t12).bind fun ph13 =>
      (xgR ph13 12 108 a0).bind fun t14 =>
      (xgR ph13 12 113 a0).bind fun t15 =>
      (xaJ ph13 2 t15 a2).bind fun t16 =>
      (xsJ ph13 2 t14 a2 t16).bind fun ph17 =>
      (xgR ph17 12 109 a0).bind fun t18 =>
      (xgR ph17 12 114 a0).bind fun t19 =>
      (xaJ ph17 2 t19 a2).bind fun t20 =>
      (xsJ ph17 2 t18 a2 t20).bind fun ph21 =>
      f_M_boot_148 F n a0 (a2 + nI 1) ph21
theorem r_M_boot_148 {l : Launch} {g : px_G} {d F : Nat} : ∀ (n : Nat) {a0 : Nat} {a2 : Int32} {ph : px_H} {r : Int32} {ph' : px_H}, f_M_boot_148 F n a0 a2 ph = some (r, ph') → PW l g (d + 3) m_M_boot 148 [.ref a0, px_u, .int a2] [] ph (px_qI r ph') := by
  intro n
  induction n with
  | zero => intro _ _ _ _ _ h; cases h
  | succ n ih =>
    intro a0 a2 ph r ph' h
    unfold f_M_boot_148 at h
    refine px_ld rfl rfl rfl rfl rfl ?_
    refine px_ld rfl rfl rfl rfl rfl ?_
    obtain ⟨t1, h0, h⟩ := xs_some h
    obtain ⟨fs, e1, e2⟩ := xgI_some h0
    refine px_get rfl e1 e2 rfl ?_
    refine px_icge rfl (by decide) rfl (fun hc => ?_) (fun hc => ?_)
    · replace h := (if_pos hc).symm.trans h
      refine px_forget (n := 0) (lv' := [_, _, _]) rfl ?_
      refine px_forget (n := 2) (lv' := [_, _, _]) rfl ?_
      exact (r_M_boot_222 h :)
    · replace h := (if_neg hc).symm.trans h
      refine px_ld rfl rfl rfl rfl rfl ?_
      obtain ⟨t2, h0, h⟩ := xs_some h
      obtain ⟨fs, e1, e2⟩ := xgR_some h0
      refine px_get rfl e1 e2 rfl ?_
      refine px_ld rfl rfl rfl rfl rfl ?_
      refine px_ld rfl rfl rfl rfl rfl ?_
      obtain ⟨t3, h0, h⟩ := xs_some h
      obtain ⟨fs, e1, e2⟩ := xgR_some h0
      refine px_get rfl e1 e2 rfl ?_
      refine px_ld rfl rfl rfl rfl rfl ?_
      obtain ⟨t4, h0, h⟩ := xs_some h
      obtain ⟨N, f, e1, e2, e3⟩ := xaJ_some h0
      subst e3
      refine px_lald rfl e1 rfl e2 rfl ?_
      obtain ⟨ph5, h0, h⟩ := xs_some h
      obtain ⟨N, f, e1, e2, e3⟩ := xsJ_some h0
      subst e3
      refine px_last rfl e1 rfl e2 rfl ?_
      refine px_ld rfl rfl rfl rfl rfl ?_
      obtain ⟨t6, h0, h⟩ := xs_some h
      obtain ⟨fs, e1, e2⟩ := xgR_some h0
      refine px_get rfl e1 e2 rfl ?_
      refine px_ld rfl rfl rfl rfl rfl ?_
      refine px_ld rfl rfl rfl rfl rfl ?_
      obtain ⟨t7, h0, h⟩ := xs_some h
      obtain ⟨fs, e1, e2⟩ := xgR_some h0
      refine px_get rfl e1 e2 rfl ?_
      refine px_ld rfl rfl rfl rfl rfl ?_
      obtain ⟨t8, h0, h⟩ := xs_some h
      obtain ⟨N, f, e1, e2, e3⟩ := xaJ_some h0
      subst e3
      refine px_lald rfl e1 rfl e2 rfl ?_
      obtain ⟨ph9, h0, h⟩ := xs_some h
      obtain ⟨N, f, e1, e2, e3⟩ := xsJ_some h0
      subst e3
      refine px_last rfl e1 rfl e2 rfl ?_
      refine px_ld rfl rfl rfl rfl rfl ?_
      obtain ⟨t10, h0, h⟩ := xs_some h
      obtain ⟨fs, e1, e2⟩ := xgR_some h0
      refine px_get rfl e1 e2 rfl ?_
      refine px_ld rfl rfl rfl rfl rfl ?_
      refine px_ld rfl rfl rfl rfl rfl ?_
      obtain ⟨t11, h0, h⟩ := xs_some h
      obtain ⟨fs, e1, e2⟩ := xgR_some h0
      refine px_get rfl e1 e2 rfl ?_
      refine px_ld rfl rfl rfl rfl rfl ?_
      obtain ⟨t12, h0, h⟩ := xs_some h
      obtain ⟨N, f, e1, e2, e3⟩ := xaJ_some h0
      subst e3
      refine px_lald rfl e1 rfl e2 rfl ?_
      obtain ⟨ph13, h0, h⟩ := xs_some h
      obtain ⟨N, f, e1, e2, e3⟩ := xsJ_some h0
      subst e3
      refine px_last rfl e1 rfl e2 rfl ?_
      refine px_ld rfl rfl rfl rfl rfl ?_
      obtain ⟨t14, h0, h⟩ := xs_some h
      obtain ⟨fs, e1, e2⟩ := xgR_some h0
      refine px_get rfl e1 e2 rfl ?_
      refine px_ld rfl rfl rfl rfl rfl ?_
      refine px_ld rfl rfl rfl rfl rfl ?_
      obtain ⟨t15, h0, h⟩ := xs_some h
      obtain ⟨fs, e1, e2⟩ := xgR_some h0
      refine px_get rfl e1 e2 rfl ?_
      refine px_ld rfl rfl rfl rfl rfl ?_
      obtain ⟨t16, h0, h⟩ := xs_some h
      obtain ⟨N, f, e1, e2, e3⟩ := xaJ_some h0
      subst e3
      refine px_lald rfl e1 rfl e2 rfl ?_
      obtain ⟨ph17, h0, h⟩ := xs_some h
      obtain ⟨N, f, e1, e2, e3⟩ := xsJ_some h0
      subst e3
      refine px_last rfl e1 rfl e2 rfl ?_
      refine px_ld rfl rfl rfl rfl rfl ?_
      obtain ⟨t18, h0, h⟩ := xs_some h
      obtain ⟨fs, e1, e2⟩ := xgR_some h0
      refine px_get rfl e1 e2 rfl ?_
      refine px_ld rfl rfl rfl rfl rfl ?_
      refine px_ld rfl rfl rfl rfl rfl ?_
      obtain ⟨t19, h0, h⟩ := xs_some h
      obtain ⟨fs, e1, e2⟩ := xgR_some h0
      refine px_get rfl e1 e2 rfl ?_
      refine px_ld rfl rfl rfl rfl rfl ?_
      obtain ⟨t20, h0, h⟩ := xs_some h
      obtain ⟨N, f, e1, e2, e3⟩ := xaJ_some h0
      subst e3
      refine px_lald rfl e1 rfl e2 rfl ?_
      obtain ⟨ph21, h0, h⟩ := xs_some h
      obtain ⟨N, f, e1, e2, e3⟩ := xsJ_some h0
      subst e3
      refine px_last rfl e1 rfl e2 rfl ?_
      refine px_iinc (lv' := [_, _, _]) rfl rfl rfl rfl rfl rfl ?_
      refine px_goto rfl (by decide) rfl ?_
      exact (ih h :)
def f_M_boot_142 (F : Nat) (a0 : Nat) (ph : px_H) : Option (Int32 × px_H) :=
  (xo ph 12 a0).bind fun _ =>
  xb (f_M_findMemoryNames F a0 ph) fun _ ph1 =>
  f_M_boot_148 F F a0 (nI 0) ph1
theorem r_M_boot_142 {l : Launch} {g : px_G} {d F : Nat} {a0 : Nat} {ph : px_H} {r : Int32} {ph' : px_H} (h : f_M_boot_142 F a0 ph = some (r, ph')) : PW l g (d + 3) m_M_boot 142 [.ref a0, px_u, px_u] [] ph (px_qI r ph') := by
  unfold f_M_boot_142 at h
  refine px_ld rfl rfl rfl rfl rfl ?_
  obtain ⟨fs, h0, h⟩ := xs_some h
  have e1 := xo_some h0
  obtain ⟨u0, ph1, h0, h⟩ := xb_some h
  refine px_cV0 rfl rfl e1 rfl rfl rfl rfl rfl rfl rfl (r_M_findMemoryNames h0 :) (fun _ _ q => nomatch q.2) (fun r ph' q => ?_)
  obtain ⟨rfl, q⟩ := q
  cases q
  refine px_ic (k := 0) rfl rfl rfl ?_
  refine px_st (lv' := [_, _, _]) rfl rfl rfl rfl rfl rfl rfl ?_
  exact (r_M_boot_148 _ h :)
def f_M_boot_116 (F : Nat) : Nat → Nat → Int32 → px_H → Option (Int32 × px_H)
  | 0, _, _, _ => none
  | n + 1, a0, a2, ph =>
    (xgI ph 12 101 a0).bind fun t1 =>
    if t1 ≤ a2 then
      f_M_boot_142 F a0 ph
    else
      (xgR ph 12 100 a0).bind fun t2 =>
      (xgR ph 12 99 a0).bind fun t3 =>
      (xaI ph 0 t3 a2).bind fun t4 =>
      (xsI ph 0 t2 a2 (t4.toInt8.toInt32)).bind fun ph5 =>
      f_M_boot_116 F n a0 (a2 + nI 1) ph5
theorem r_M_boot_116 {l : Launch} {g : px_G} {d F : Nat} : ∀ (n : Nat) {a0 : Nat} {a2 : Int32} {ph : px_H} {r : Int32} {ph' : px_H}, f_M_boot_116 F n a0 a2 ph = some (r, ph') → PW l g (d + 3) m_M_boot 116 [.ref a0, px_u, .int a2] [] ph (px_qI r ph') := by
  intro n
  induction n with
  | zero => intro _ _ _ _ _ h; cases h
  | succ n ih =>
    intro a0 a2 ph r ph' h
    unfold f_M_boot_116 at h
    refine px_ld rfl rfl rfl rfl rfl ?_
    refine px_ld rfl rfl rfl rfl rfl ?_
    obtain ⟨t1, h0, h⟩ := xs_some h
    obtain ⟨fs, e1, e2⟩ := xgI_some h0
    refine px_get rfl e1 e2 rfl ?_
    refine px_icge rfl (by decide) rfl (fun hc => ?_) (fun hc => ?_)
    · replace h := (if_pos hc).symm.trans h
      refine px_forget (n := 2) (lv' := [_, _, _]) rfl ?_
      exact (r_M_boot_142 h :)
    · replace h := (if_neg hc).symm.trans h
      refine px_ld rfl rfl rfl rfl rfl ?_
      obtain ⟨t2, h0, h⟩ := xs_some h
      obtain ⟨fs, e1, e2⟩ := xgR_some h0
      refine px_get rfl e1 e2 rfl ?_
      refine px_ld rfl rfl rfl rfl rfl ?_
      refine px_ld rfl rfl rfl rfl rfl ?_
      obtain ⟨t3, h0, h⟩ := xs_some h
      obtain ⟨fs, e1, e2⟩ := xgR_some h0
      refine px_get rfl e1 e2 rfl ?_
      refine px_ld rfl rfl rfl rfl rfl ?_
      obtain ⟨t4, h0, h⟩ := xs_some h
      obtain ⟨N, f, e1, e2, e3⟩ := xaI_some h0
      subst e3
      refine px_bald rfl e1 rfl e2 rfl ?_
      obtain ⟨ph5, h0, h⟩ := xs_some h
      obtain ⟨N, f, e1, e2, e3⟩ := xsI_some h0
      subst e3
      refine px_bast rfl e1 rfl e2 rfl ?_
      refine px_iinc (lv' := [_, _, _]) rfl rfl rfl rfl rfl rfl ?_
      refine px_goto rfl (by decide) rfl ?_
      exact (ih h :)
def f_M_boot_74 (F : Nat) (a0 : Nat) (ph : px_H) : Option (Int32 × px_H) :=
  (xo ph 12 a0).bind fun _ =>
  xb (f_M_triedError F a0 ph) fun t1 ph2 =>
  (xpI ph2 12 103 a0 t1).bind fun ph3 =>
  (xgI ph3 12 103 a0).bind fun t4 =>
  if t4 ≤ 0 then
    (xgI ph3 12 115 a0).bind fun t5 =>
    (xpI ph3 12 102 a0 t5).bind fun ph6 =>
    (xo ph6 12 a0).bind fun _ =>
    xb (f_M_triedNum F a0 (nI 24) (nI 8) ph6) fun t7 ph8 =>
    (xpJ ph8 12 104 a0 t7).bind fun ph9 =>
    f_M_boot_116 F F a0 (nI 0) ph9
  else
    (xgI ph3 12 103 a0).bind fun t10 =>
    some (t10, ph3)
theorem r_M_boot_74 {l : Launch} {g : px_G} {d F : Nat} {a0 : Nat} {ph : px_H} {r : Int32} {ph' : px_H} (h : f_M_boot_74 F a0 ph = some (r, ph')) : PW l g (d + 3) m_M_boot 74 [.ref a0, px_u, px_u] [] ph (px_qI r ph') := by
  unfold f_M_boot_74 at h
  refine px_ld rfl rfl rfl rfl rfl ?_
  refine px_ld rfl rfl rfl rfl rfl ?_
  obtain ⟨fs, h0, h⟩ := xs_some h
  have e1 := xo_some h0
  obtain ⟨t1, ph2, h0, h⟩ := xb_some h
  refine px_cV0 rfl rfl e1 rfl rfl rfl rfl rfl rfl rfl (r_M_triedError h0 :) (fun _ _ q => nomatch q.2) (fun r ph' q => ?_)
  obtain ⟨rfl, q⟩ := q
  cases q
  obtain ⟨ph3, h0, h⟩ := xs_some h
  obtain ⟨fs, e1, e2, e3⟩ := xpI_some h0
  subst e3
  refine px_put rfl e1 e2 trivial rfl ?_
  refine px_ld rfl rfl rfl rfl rfl ?_
  obtain ⟨t4, h0, h⟩ := xs_some h
  obtain ⟨fs, e1, e2⟩ := xgI_some h0
  refine px_get rfl e1 e2 rfl ?_
  refine px_ifle rfl (by decide) rfl (fun hc => ?_) (fun hc => ?_)
  · replace h := (if_pos hc).symm.trans h
    refine px_ld rfl rfl rfl rfl rfl ?_
    refine px_ld rfl rfl rfl rfl rfl ?_
    obtain ⟨t5, h0, h⟩ := xs_some h
    obtain ⟨fs, e1, e2⟩ := xgI_some h0
    refine px_get rfl e1 e2 rfl ?_
    obtain ⟨ph6, h0, h⟩ := xs_some h
    obtain ⟨fs, e1, e2, e3⟩ := xpI_some h0
    subst e3
    refine px_put rfl e1 e2 trivial rfl ?_
    refine px_ld rfl rfl rfl rfl rfl ?_
    refine px_ld rfl rfl rfl rfl rfl ?_
    refine px_ic (k := 24) rfl rfl rfl ?_
    refine px_ic (k := 8) rfl rfl rfl ?_
    obtain ⟨fs, h0, h⟩ := xs_some h
    have e1 := xo_some h0
    obtain ⟨t7, ph8, h0, h⟩ := xb_some h
    refine px_cV2 rfl rfl e1 rfl rfl rfl rfl rfl rfl rfl (r_M_triedNum h0 :) (fun _ _ q => nomatch q.2) (fun r ph' q => ?_)
    obtain ⟨rfl, q⟩ := q
    cases q
    obtain ⟨ph9, h0, h⟩ := xs_some h
    obtain ⟨fs, e1, e2, e3⟩ := xpJ_some h0
    subst e3
    refine px_put rfl e1 e2 trivial rfl ?_
    refine px_ic (k := 0) rfl rfl rfl ?_
    refine px_st (lv' := [_, _, _]) rfl rfl rfl rfl rfl rfl rfl ?_
    exact (r_M_boot_116 _ h :)
  · replace h := (if_neg hc).symm.trans h
    refine px_ld rfl rfl rfl rfl rfl ?_
    obtain ⟨t10, h0, h⟩ := xs_some h
    obtain ⟨fs, e1, e2⟩ := xgI_some h0
    refine px_get rfl e1 e2 rfl ?_
    cases h
    exact px_iret rfl (Or.inl rfl) rfl ⟨rfl, rfl⟩
def f_M_boot_65 (F : Nat) (a0 : Nat) (a1 : Int32) (ph : px_H) : Option (Int32 × px_H) :=
  if a1 = 0 then
    f_M_boot_74 F a0 ph
  else
    (xpI ph 12 2 a0 (nI 0)).bind fun ph1 =>
    f_M_boot_74 F a0 ph1
theorem r_M_boot_65 {l : Launch} {g : px_G} {d F : Nat} {a0 : Nat} {a1 : Int32} {ph : px_H} {r : Int32} {ph' : px_H} (h : f_M_boot_65 F a0 a1 ph = some (r, ph')) : PW l g (d + 3) m_M_boot 65 [.ref a0, .int a1, px_u] [] ph (px_qI r ph') := by
  unfold f_M_boot_65 at h
  refine px_ld rfl rfl rfl rfl rfl ?_
  refine px_ifeq rfl (by decide) rfl (fun hc => ?_) (fun hc => ?_)
  · replace h := (if_pos hc).symm.trans h
    refine px_forget (n := 1) (lv' := [_, _, _]) rfl ?_
    exact (r_M_boot_74 h :)
  · replace h := (if_neg hc).symm.trans h
    refine px_ld rfl rfl rfl rfl rfl ?_
    refine px_ic (k := 0) rfl rfl rfl ?_
    obtain ⟨ph1, h0, h⟩ := xs_some h
    obtain ⟨fs, e1, e2, e3⟩ := xpI_some h0
    subst e3
    refine px_put rfl e1 e2 trivial rfl ?_
    refine px_forget (n := 1) (lv' := [_, _, _]) rfl ?_
    exact (r_M_boot_74 h :)
def f_M_boot_58 (F : Nat) (k26 : Nat → Int32 → Int32 → px_H → Option (Int32 × px_H)) (a0 : Nat) (a1 : Int32) (a2 : Int32) (s0 : Nat) (s1 : Int32) (s2 : Int32) (ph : px_H) : Option (Int32 × px_H) :=
  (xsI ph 0 s0 s1 (s2.toInt8.toInt32)).bind fun ph1 =>
  k26 a0 a1 (a2 + nI 1) ph1
theorem r_M_boot_58 {l : Launch} {g : px_G} {d F : Nat} {k26 : Nat → Int32 → Int32 → px_H → Option (Int32 × px_H)} (hk26 : ∀ {a0 : Nat} {a1 : Int32} {a2 : Int32} {ph : px_H} {r : Int32} {ph' : px_H}, k26 a0 a1 a2 ph = some (r, ph') → PW l g (d + 3) m_M_boot 26 [.ref a0, .int a1, .int a2] [] ph (px_qI r ph')) {a0 : Nat} {a1 : Int32} {a2 : Int32} {s0 : Nat} {s1 : Int32} {s2 : Int32} {ph : px_H} {r : Int32} {ph' : px_H} (h : f_M_boot_58 F k26 a0 a1 a2 s0 s1 s2 ph = some (r, ph')) : PW l g (d + 3) m_M_boot 58 [.ref a0, .int a1, .int a2] [.int s2, .int s1, .ref s0] ph (px_qI r ph') := by
  unfold f_M_boot_58 at h
  obtain ⟨ph1, h0, h⟩ := xs_some h
  obtain ⟨N, f, e1, e2, e3⟩ := xsI_some h0
  subst e3
  refine px_bast rfl e1 rfl e2 rfl ?_
  refine px_iinc (lv' := [_, _, _]) rfl rfl rfl rfl rfl rfl ?_
  refine px_goto rfl (by decide) rfl ?_
  exact (hk26 h :)
def f_M_boot_26 (F : Nat) : Nat → Nat → Int32 → Int32 → px_H → Option (Int32 × px_H)
  | 0, _, _, _, _ => none
  | n + 1, a0, a1, a2, ph =>
    (xgI ph 12 101 a0).bind fun t1 =>
    if t1 ≤ a2 then
      f_M_boot_65 F a0 a1 ph
    else
      (xgR ph 12 99 a0).bind fun t2 =>
      if a1 = 0 then
        (xgR ph 12 3 a0).bind fun t3 =>
        (xaI ph 0 t3 a2).bind fun t4 =>
        f_M_boot_58 F (f_M_boot_26 F n) a0 a1 a2 t2 a2 t4 ph
      else
        (xgR ph 12 1 a0).bind fun t5 =>
        (xaI ph 0 t5 a2).bind fun t6 =>
        f_M_boot_58 F (f_M_boot_26 F n) a0 a1 a2 t2 a2 t6 ph
theorem r_M_boot_26 {l : Launch} {g : px_G} {d F : Nat} : ∀ (n : Nat) {a0 : Nat} {a1 : Int32} {a2 : Int32} {ph : px_H} {r : Int32} {ph' : px_H}, f_M_boot_26 F n a0 a1 a2 ph = some (r, ph') → PW l g (d + 3) m_M_boot 26 [.ref a0, .int a1, .int a2] [] ph (px_qI r ph') := by
  intro n
  induction n with
  | zero => intro _ _ _ _ _ _ h; cases h
  | succ n ih =>
    intro a0 a1 a2 ph r ph' h
    unfold f_M_boot_26 at h
    refine px_ld rfl rfl rfl rfl rfl ?_
    refine px_ld rfl rfl rfl rfl rfl ?_
    obtain ⟨t1, h0, h⟩ := xs_some h
    obtain ⟨fs, e1, e2⟩ := xgI_some h0
    refine px_get rfl e1 e2 rfl ?_
    refine px_icge rfl (by decide) rfl (fun hc => ?_) (fun hc => ?_)
    · replace h := (if_pos hc).symm.trans h
      refine px_forget (n := 2) (lv' := [_, _, _]) rfl ?_
      exact (r_M_boot_65 h :)
    · replace h := (if_neg hc).symm.trans h
      refine px_ld rfl rfl rfl rfl rfl ?_
      obtain ⟨t2, h0, h⟩ := xs_some h
      obtain ⟨fs, e1, e2⟩ := xgR_some h0
      refine px_get rfl e1 e2 rfl ?_
      refine px_ld rfl rfl rfl rfl rfl ?_
      refine px_ld rfl rfl rfl rfl rfl ?_
      refine px_ifeq rfl (by decide) rfl (fun hc => ?_) (fun hc => ?_)
      · replace h := (if_pos hc).symm.trans h
        refine px_ld rfl rfl rfl rfl rfl ?_
        obtain ⟨t3, h0, h⟩ := xs_some h
        obtain ⟨fs, e1, e2⟩ := xgR_some h0
        refine px_get rfl e1 e2 rfl ?_
        refine px_ld rfl rfl rfl rfl rfl ?_
        obtain ⟨t4, h0, h⟩ := xs_some h
        obtain ⟨N, f, e1, e2, e3⟩ := xaI_some h0
        subst e3
        refine px_bald rfl e1 rfl e2 rfl ?_
        exact (r_M_boot_58 @ih h :)
      · replace h := (if_neg hc).symm.trans h
        refine px_ld rfl rfl rfl rfl rfl ?_
        obtain ⟨t5, h0, h⟩ := xs_some h
        obtain ⟨fs, e1, e2⟩ := xgR_some h0
        refine px_get rfl e1 e2 rfl ?_
        refine px_ld rfl rfl rfl rfl rfl ?_
        obtain ⟨t6, h0, h⟩ := xs_some h
        obtain ⟨N, f, e1, e2, e3⟩ := xaI_some h0
        subst e3
        refine px_bald rfl e1 rfl e2 rfl ?_
        refine px_goto rfl (by decide) rfl ?_
        exact (r_M_boot_58 @ih h :)
def f_M_boot_21 (F : Nat) (a0 : Nat) (a1 : Int32) (s0 : Nat) (s1 : Int32) (ph : px_H) : Option (Int32 × px_H) :=
  (xpI ph 12 101 s0 s1).bind fun ph1 =>
  f_M_boot_26 F F a0 a1 (nI 0) ph1
theorem r_M_boot_21 {l : Launch} {g : px_G} {d F : Nat} {a0 : Nat} {a1 : Int32} {s0 : Nat} {s1 : Int32} {ph : px_H} {r : Int32} {ph' : px_H} (h : f_M_boot_21 F a0 a1 s0 s1 ph = some (r, ph')) : PW l g (d + 3) m_M_boot 21 [.ref a0, .int a1, px_u] [.int s1, .ref s0] ph (px_qI r ph') := by
  unfold f_M_boot_21 at h
  obtain ⟨ph1, h0, h⟩ := xs_some h
  obtain ⟨fs, e1, e2, e3⟩ := xpI_some h0
  subst e3
  refine px_put rfl e1 e2 trivial rfl ?_
  refine px_ic (k := 0) rfl rfl rfl ?_
  refine px_st (lv' := [_, _, _]) rfl rfl rfl rfl rfl rfl rfl ?_
  exact (r_M_boot_26 _ h :)
def f_M_boot (F : Nat) (a0 : Nat) (a1 : Int32) (ph : px_H) : Option (Int32 × px_H) :=
  (xpI ph 12 0 a0 (nI 0)).bind fun ph1 =>
  if a1 = 0 then
    (xgI ph1 12 4 a0).bind fun t2 =>
    f_M_boot_21 F a0 a1 a0 t2 ph1
  else
    (xgI ph1 12 2 a0).bind fun t3 =>
    f_M_boot_21 F a0 a1 a0 t3 ph1
theorem r_M_boot {l : Launch} {g : px_G} {d F : Nat} {a0 : Nat} {a1 : Int32} {ph : px_H} {r : Int32} {ph' : px_H} (h : f_M_boot F a0 a1 ph = some (r, ph')) : PW l g (d + 3) m_M_boot 0 [.ref a0, .int a1, px_u] [] ph (px_qI r ph') := by
  unfold f_M_boot at h
  refine px_ld rfl rfl rfl rfl rfl ?_
  refine px_ic (k := 0) rfl rfl rfl ?_
  obtain ⟨ph1, h0, h⟩ := xs_some h
  obtain ⟨fs, e1, e2, e3⟩ := xpI_some h0
  subst e3
  refine px_put rfl e1 e2 trivial rfl ?_
  refine px_ld rfl rfl rfl rfl rfl ?_
  refine px_ld rfl rfl rfl rfl rfl ?_
  refine px_ifeq rfl (by decide) rfl (fun hc => ?_) (fun hc => ?_)
  · replace h := (if_pos hc).symm.trans h
    refine px_ld rfl rfl rfl rfl rfl ?_
    obtain ⟨t2, h0, h⟩ := xs_some h
    obtain ⟨fs, e1, e2⟩ := xgI_some h0
    refine px_get rfl e1 e2 rfl ?_
    exact (r_M_boot_21 h :)
  · replace h := (if_neg hc).symm.trans h
    refine px_ld rfl rfl rfl rfl rfl ?_
    obtain ⟨t3, h0, h⟩ := xs_some h
    obtain ⟨fs, e1, e2⟩ := xgI_some h0
    refine px_get rfl e1 e2 rfl ?_
    refine px_goto rfl (by decide) rfl ?_
    exact (r_M_boot_21 h :)
def f_M_rowOf_47 (F : Nat) (ph : px_H) : Option (Int32 × px_H) :=
  some (Int32.ofInt (-1), ph)
theorem r_M_rowOf_47 {l : Launch} {g : px_G} {d F : Nat} {ph : px_H} {r : Int32} {ph' : px_H} (h : f_M_rowOf_47 F ph = some (r, ph')) : PW l g (d + 0) m_M_rowOf 47 [px_u, px_u, px_u, px_u] [] ph (px_qI r ph') := by
  unfold f_M_rowOf_47 at h
  refine px_alu rfl rfl rfl ?_
  cases h
  exact px_iret rfl (Or.inl rfl) rfl ⟨rfl, rfl⟩
def f_M_rowOf_41 (F : Nat) (k2 : Nat → Int64 → Int32 → px_H → Option (Int32 × px_H)) (a0 : Nat) (a1 : Int64) (a3 : Int32) (ph : px_H) : Option (Int32 × px_H) :=
  k2 a0 a1 (a3 + nI 1) ph
theorem r_M_rowOf_41 {l : Launch} {g : px_G} {d F : Nat} {k2 : Nat → Int64 → Int32 → px_H → Option (Int32 × px_H)} (hk2 : ∀ {a0 : Nat} {a1 : Int64} {a3 : Int32} {ph : px_H} {r : Int32} {ph' : px_H}, k2 a0 a1 a3 ph = some (r, ph') → PW l g (d + 0) m_M_rowOf 2 [.ref a0, .long a1, px_u, .int a3] [] ph (px_qI r ph')) {a0 : Nat} {a1 : Int64} {a3 : Int32} {ph : px_H} {r : Int32} {ph' : px_H} (h : f_M_rowOf_41 F k2 a0 a1 a3 ph = some (r, ph')) : PW l g (d + 0) m_M_rowOf 41 [.ref a0, .long a1, px_u, .int a3] [] ph (px_qI r ph') := by
  unfold f_M_rowOf_41 at h
  refine px_iinc (lv' := [_, _, _, _]) rfl rfl rfl rfl rfl rfl ?_
  refine px_goto rfl rfl rfl ?_
  exact (hk2 h :)
def f_M_rowOf_39 (F : Nat) (a3 : Int32) (ph : px_H) : Option (Int32 × px_H) :=
  some (a3, ph)
theorem r_M_rowOf_39 {l : Launch} {g : px_G} {d F : Nat} {a3 : Int32} {ph : px_H} {r : Int32} {ph' : px_H} (h : f_M_rowOf_39 F a3 ph = some (r, ph')) : PW l g (d + 0) m_M_rowOf 39 [px_u, px_u, px_u, .int a3] [] ph (px_qI r ph') := by
  unfold f_M_rowOf_39 at h
  refine px_ld rfl rfl rfl rfl rfl ?_
  cases h
  exact px_iret rfl (Or.inl rfl) rfl ⟨rfl, rfl⟩
def f_M_rowOf_2 (F : Nat) : Nat → Nat → Int64 → Int32 → px_H → Option (Int32 × px_H)
  | 0, _, _, _, _ => none
  | n + 1, a0, a1, a3, ph =>
    (xgI ph 12 102 a0).bind fun t1 =>
    if t1 ≤ a3 then
      f_M_rowOf_47 F ph
    else
      (xgR ph 12 107 a0).bind fun t2 =>
      (xaJ ph 2 t2 a3).bind fun t3 =>
      if a1 < t3 then
        f_M_rowOf_41 F (f_M_rowOf_2 F n) a0 a1 a3 ph
      else
        (xgR ph 12 107 a0).bind fun t4 =>
        (xaJ ph 2 t4 a3).bind fun t5 =>
        (xgR ph 12 109 a0).bind fun t6 =>
        (xaJ ph 2 t6 a3).bind fun t7 =>
        if (t5 + t7) ≤ a1 then
          f_M_rowOf_41 F (f_M_rowOf_2 F n) a0 a1 a3 ph
        else
          f_M_rowOf_39 F a3 ph
theorem r_M_rowOf_2 {l : Launch} {g : px_G} {d F : Nat} : ∀ (n : Nat) {a0 : Nat} {a1 : Int64} {a3 : Int32} {ph : px_H} {r : Int32} {ph' : px_H}, f_M_rowOf_2 F n a0 a1 a3 ph = some (r, ph') → PW l g (d + 0) m_M_rowOf 2 [.ref a0, .long a1, px_u, .int a3] [] ph (px_qI r ph') := by
  intro n
  induction n with
  | zero => intro _ _ _ _ _ _ h; cases h
  | succ n ih =>
    intro a0 a1 a3 ph r ph' h
    unfold f_M_rowOf_2 at h
    refine px_ld rfl rfl rfl rfl rfl ?_
    refine px_ld rfl rfl rfl rfl rfl ?_
    obtain ⟨t1, h0, h⟩ := xs_some h
    obtain ⟨fs, e1, e2⟩ := xgI_some h0
    refine px_get rfl e1 e2 rfl ?_
    refine px_icge rfl rfl rfl (fun hc => ?_) (fun hc => ?_)
    · replace h := (if_pos hc).symm.trans h
      refine px_forget (n := 0) (lv' := [_, _, _, _]) rfl ?_
      refine px_forget (n := 1) (lv' := [_, _, _, _]) rfl ?_
      refine px_forget (n := 3) (lv' := [_, _, _, _]) rfl ?_
      exact (r_M_rowOf_47 h :)
    · replace h := (if_neg hc).symm.trans h
      refine px_ld rfl rfl rfl rfl rfl ?_
      refine px_ld rfl rfl rfl rfl rfl ?_
      obtain ⟨t2, h0, h⟩ := xs_some h
      obtain ⟨fs, e1, e2⟩ := xgR_some h0
      refine px_get rfl e1 e2 rfl ?_
      refine px_ld rfl rfl rfl rfl rfl ?_
      obtain ⟨t3, h0, h⟩ := xs_some h
      obtain ⟨N, f, e1, e2, e3⟩ := xaJ_some h0
      subst e3
      refine px_lald rfl e1 rfl e2 rfl ?_
      refine px_alu rfl rfl rfl ?_
      refine px_iflt rfl rfl rfl (fun hc => ?_) (fun hc => ?_)
      · replace h := (if_pos ((lg_cmp_lt _ _).mp hc)).symm.trans h
        exact (r_M_rowOf_41 @ih h :)
      · replace h := (if_neg (fun q => hc ((lg_cmp_lt _ _).mpr q))).symm.trans h
        refine px_ld rfl rfl rfl rfl rfl ?_
        refine px_ld rfl rfl rfl rfl rfl ?_
        obtain ⟨t4, h0, h⟩ := xs_some h
        obtain ⟨fs, e1, e2⟩ := xgR_some h0
        refine px_get rfl e1 e2 rfl ?_
        refine px_ld rfl rfl rfl rfl rfl ?_
        obtain ⟨t5, h0, h⟩ := xs_some h
        obtain ⟨N, f, e1, e2, e3⟩ := xaJ_some h0
        subst e3
        refine px_lald rfl e1 rfl e2 rfl ?_
        refine px_ld rfl rfl rfl rfl rfl ?_
        obtain ⟨t6, h0, h⟩ := xs_some h
        obtain ⟨fs, e1, e2⟩ := xgR_some h0
        refine px_get rfl e1 e2 rfl ?_
        refine px_ld rfl rfl rfl rfl rfl ?_
        obtain ⟨t7, h0, h⟩ := xs_some h
        obtain ⟨N, f, e1, e2, e3⟩ := xaJ_some h0
        subst e3
        refine px_lald rfl e1 rfl e2 rfl ?_
        refine px_alu rfl rfl rfl ?_
        refine px_alu rfl rfl rfl ?_
        refine px_ifge rfl rfl rfl (fun hc => ?_) (fun hc => ?_)
        · replace h := (if_pos ((lg_cmp_ge _ _).mp hc)).symm.trans h
          exact (r_M_rowOf_41 @ih h :)
        · replace h := (if_neg (fun q => hc ((lg_cmp_ge _ _).mpr q))).symm.trans h
          refine px_forget (n := 0) (lv' := [_, _, _, _]) rfl ?_
          refine px_forget (n := 1) (lv' := [_, _, _, _]) rfl ?_
          exact (r_M_rowOf_39 h :)
def f_M_rowOf (F : Nat) (a0 : Nat) (a1 : Int64) (ph : px_H) : Option (Int32 × px_H) :=
  f_M_rowOf_2 F F a0 a1 (nI 0) ph
theorem r_M_rowOf {l : Launch} {g : px_G} {d F : Nat} {a0 : Nat} {a1 : Int64} {ph : px_H} {r : Int32} {ph' : px_H} (h : f_M_rowOf F a0 a1 ph = some (r, ph')) : PW l g (d + 0) m_M_rowOf 0 [.ref a0, .long a1, px_u, px_u] [] ph (px_qI r ph') := by
  unfold f_M_rowOf at h
  refine px_ic (k := 0) rfl rfl rfl ?_
  refine px_st (lv' := [_, _, _, _]) rfl rfl rfl rfl rfl rfl rfl ?_
  exact (r_M_rowOf_2 _ h :)
def f_M_near_101 (F : Nat) (ph : px_H) : Option (Int64 × px_H) :=
  some ((-1 : Int64), ph)
theorem r_M_near_101 {l : Launch} {g : px_G} {d F : Nat} {ph : px_H} {r : Int64} {ph' : px_H} (h : f_M_near_101 F ph = some (r, ph')) : PW l g (d + 1) m_M_near 101 [px_u, px_u, px_u, px_u, px_u, px_u] [] ph (px_qJ r ph') := by
  unfold f_M_near_101 at h
  refine px_ldc2 rfl rfl rfl ?_
  cases h
  exact px_lret rfl rfl rfl ⟨rfl, rfl⟩
def f_M_near_89 (F : Nat) (a0 : Nat) (a1 : Int64) (a3 : Int32) (ph : px_H) : Option (Int64 × px_H) :=
  (xo ph 12 a0).bind fun _ =>
  xb (f_M_rowOf F a0 a1 ph) fun t1 ph2 =>
  if t1 < 0 then
    f_M_near_101 F ph2
  else
    if 0 ≤ a3 then
      (xgR ph2 12 100 a0).bind fun t3 =>
      (xgR ph2 12 45 a0).bind fun t4 =>
      (xaI ph2 1 t4 a3).bind fun t5 =>
      (xgR ph2 12 46 a0).bind fun t6 =>
      (xaI ph2 1 t6 a3).bind fun t7 =>
      (xo ph2 12 a0).bind fun _ =>
      xb (f_M_say F a0 t3 t5 t7 ph2) fun _ ph8 =>
      (xgR ph8 12 47 a0).bind fun t9 =>
      (xaJ ph8 2 t9 a3).bind fun t10 =>
      some (a1 - t10, ph8)
    else
      f_M_near_101 F ph2
theorem r_M_near_89 {l : Launch} {g : px_G} {d F : Nat} {a0 : Nat} {a1 : Int64} {a3 : Int32} {ph : px_H} {r : Int64} {ph' : px_H} (h : f_M_near_89 F a0 a1 a3 ph = some (r, ph')) : PW l g (d + 1) m_M_near 89 [.ref a0, .long a1, px_u, .int a3, px_u, px_u] [] ph (px_qJ r ph') := by
  unfold f_M_near_89 at h
  refine px_ld rfl rfl rfl rfl rfl ?_
  refine px_ld rfl rfl rfl rfl rfl ?_
  obtain ⟨fs, h0, h⟩ := xs_some h
  have e1 := xo_some h0
  obtain ⟨t1, ph2, h0, h⟩ := xb_some h
  refine px_cV1 rfl rfl e1 rfl rfl rfl rfl rfl rfl rfl (r_M_rowOf h0 :) (fun _ _ q => nomatch q.2) (fun r ph' q => ?_)
  obtain ⟨rfl, q⟩ := q
  cases q
  refine px_iflt rfl (by decide) rfl (fun hc => ?_) (fun hc => ?_)
  · replace h := (if_pos hc).symm.trans h
    refine px_forget (n := 0) (lv' := [_, _, _, _, _, _]) rfl ?_
    refine px_forget (n := 1) (lv' := [_, _, _, _, _, _]) rfl ?_
    refine px_forget (n := 3) (lv' := [_, _, _, _, _, _]) rfl ?_
    exact (r_M_near_101 h :)
  · replace h := (if_neg hc).symm.trans h
    refine px_ld rfl rfl rfl rfl rfl ?_
    refine px_ifge rfl (by decide) rfl (fun hc => ?_) (fun hc => ?_)
    · replace h := (if_pos hc).symm.trans h
      refine px_ld rfl rfl rfl rfl rfl ?_
      refine px_ld rfl rfl rfl rfl rfl ?_
      obtain ⟨t3, h0, h⟩ := xs_some h
      obtain ⟨fs, e1, e2⟩ := xgR_some h0
      refine px_get rfl e1 e2 rfl ?_
      refine px_ld rfl rfl rfl rfl rfl ?_
      obtain ⟨t4, h0, h⟩ := xs_some h
      obtain ⟨fs, e1, e2⟩ := xgR_some h0
      refine px_get rfl e1 e2 rfl ?_
      refine px_ld rfl rfl rfl rfl rfl ?_
      obtain ⟨t5, h0, h⟩ := xs_some h
      obtain ⟨N, f, e1, e2, e3⟩ := xaI_some h0
      subst e3
      refine px_iald rfl e1 rfl e2 rfl ?_
      refine px_ld rfl rfl rfl rfl rfl ?_
      obtain ⟨t6, h0, h⟩ := xs_some h
      obtain ⟨fs, e1, e2⟩ := xgR_some h0
      refine px_get rfl e1 e2 rfl ?_
      refine px_ld rfl rfl rfl rfl rfl ?_
      obtain ⟨t7, h0, h⟩ := xs_some h
      obtain ⟨N, f, e1, e2, e3⟩ := xaI_some h0
      subst e3
      refine px_iald rfl e1 rfl e2 rfl ?_
      obtain ⟨fs, h0, h⟩ := xs_some h
      have e1 := xo_some h0
      obtain ⟨u0, ph8, h0, h⟩ := xb_some h
      refine px_cV3 rfl rfl e1 rfl rfl rfl rfl rfl rfl rfl (r_M_say h0 :) (fun _ _ q => nomatch q.2) (fun r ph' q => ?_)
      obtain ⟨rfl, q⟩ := q
      cases q
      refine px_ld rfl rfl rfl rfl rfl ?_
      refine px_ld rfl rfl rfl rfl rfl ?_
      obtain ⟨t9, h0, h⟩ := xs_some h
      obtain ⟨fs, e1, e2⟩ := xgR_some h0
      refine px_get rfl e1 e2 rfl ?_
      refine px_ld rfl rfl rfl rfl rfl ?_
      obtain ⟨t10, h0, h⟩ := xs_some h
      obtain ⟨N, f, e1, e2, e3⟩ := xaJ_some h0
      subst e3
      refine px_lald rfl e1 rfl e2 rfl ?_
      refine px_alu rfl rfl rfl ?_
      cases h
      exact px_lret rfl rfl rfl ⟨rfl, rfl⟩
    · replace h := (if_neg hc).symm.trans h
      refine px_forget (n := 0) (lv' := [_, _, _, _, _, _]) rfl ?_
      refine px_forget (n := 1) (lv' := [_, _, _, _, _, _]) rfl ?_
      refine px_forget (n := 3) (lv' := [_, _, _, _, _, _]) rfl ?_
      exact (r_M_near_101 h :)
def f_M_near_82 (F : Nat) (k10 : Nat → Int64 → Int32 → Int32 → px_H → Option (Int64 × px_H)) (a0 : Nat) (a1 : Int64) (a4 : Int32) (s0 : Int32) (ph : px_H) : Option (Int64 × px_H) :=
  k10 a0 a1 s0 (a4 + nI 1) ph
theorem r_M_near_82 {l : Launch} {g : px_G} {d F : Nat} {k10 : Nat → Int64 → Int32 → Int32 → px_H → Option (Int64 × px_H)} (hk10 : ∀ {a0 : Nat} {a1 : Int64} {a3 : Int32} {a4 : Int32} {ph : px_H} {r : Int64} {ph' : px_H}, k10 a0 a1 a3 a4 ph = some (r, ph') → PW l g (d + 1) m_M_near 10 [.ref a0, .long a1, px_u, .int a3, .int a4, px_u] [] ph (px_qJ r ph')) {a0 : Nat} {a1 : Int64} {a4 : Int32} {s0 : Int32} {ph : px_H} {r : Int64} {ph' : px_H} (h : f_M_near_82 F k10 a0 a1 a4 s0 ph = some (r, ph')) : PW l g (d + 1) m_M_near 82 [.ref a0, .long a1, px_u, px_u, .int a4, px_u] [.int s0] ph (px_qJ r ph') := by
  unfold f_M_near_82 at h
  refine px_st (lv' := [_, _, _, _, _, _]) rfl rfl rfl rfl rfl rfl rfl ?_
  refine px_iinc (lv' := [_, _, _, _, _, _]) rfl rfl rfl rfl rfl rfl ?_
  refine px_goto rfl (by decide) rfl ?_
  exact (hk10 h :)
def f_M_near_81 (F : Nat) (k10 : Nat → Int64 → Int32 → Int32 → px_H → Option (Int64 × px_H)) (a0 : Nat) (a1 : Int64) (a3 : Int32) (a4 : Int32) (ph : px_H) : Option (Int64 × px_H) :=
  f_M_near_82 F k10 a0 a1 a4 a3 ph
theorem r_M_near_81 {l : Launch} {g : px_G} {d F : Nat} {k10 : Nat → Int64 → Int32 → Int32 → px_H → Option (Int64 × px_H)} (hk10 : ∀ {a0 : Nat} {a1 : Int64} {a3 : Int32} {a4 : Int32} {ph : px_H} {r : Int64} {ph' : px_H}, k10 a0 a1 a3 a4 ph = some (r, ph') → PW l g (d + 1) m_M_near 10 [.ref a0, .long a1, px_u, .int a3, .int a4, px_u] [] ph (px_qJ r ph')) {a0 : Nat} {a1 : Int64} {a3 : Int32} {a4 : Int32} {ph : px_H} {r : Int64} {ph' : px_H} (h : f_M_near_81 F k10 a0 a1 a3 a4 ph = some (r, ph')) : PW l g (d + 1) m_M_near 81 [.ref a0, .long a1, px_u, .int a3, .int a4, px_u] [] ph (px_qJ r ph') := by
  unfold f_M_near_81 at h
  refine px_ld rfl rfl rfl rfl rfl ?_
  refine px_forget (n := 3) (lv' := [_, _, _, _, _, _]) rfl ?_
  exact (r_M_near_82 @hk10 h :)
def f_M_near_76 (F : Nat) (k10 : Nat → Int64 → Int32 → Int32 → px_H → Option (Int64 × px_H)) (a0 : Nat) (a1 : Int64) (a4 : Int32) (ph : px_H) : Option (Int64 × px_H) :=
  f_M_near_82 F k10 a0 a1 a4 a4 ph
theorem r_M_near_76 {l : Launch} {g : px_G} {d F : Nat} {k10 : Nat → Int64 → Int32 → Int32 → px_H → Option (Int64 × px_H)} (hk10 : ∀ {a0 : Nat} {a1 : Int64} {a3 : Int32} {a4 : Int32} {ph : px_H} {r : Int64} {ph' : px_H}, k10 a0 a1 a3 a4 ph = some (r, ph') → PW l g (d + 1) m_M_near 10 [.ref a0, .long a1, px_u, .int a3, .int a4, px_u] [] ph (px_qJ r ph')) {a0 : Nat} {a1 : Int64} {a4 : Int32} {ph : px_H} {r : Int64} {ph' : px_H} (h : f_M_near_76 F k10 a0 a1 a4 ph = some (r, ph')) : PW l g (d + 1) m_M_near 76 [.ref a0, .long a1, px_u, px_u, .int a4, px_u] [] ph (px_qJ r ph') := by
  unfold f_M_near_76 at h
  refine px_ld rfl rfl rfl rfl rfl ?_
  refine px_goto rfl (by decide) rfl ?_
  exact (r_M_near_82 @hk10 h :)
def f_M_near_48 (F : Nat) (k10 : Nat → Int64 → Int32 → Int32 → px_H → Option (Int64 × px_H)) (a0 : Nat) (a1 : Int64) (a3 : Int32) (a4 : Int32) (s0 : Int32) (ph : px_H) : Option (Int64 × px_H) :=
  if s0 = 0 then
    f_M_near_81 F k10 a0 a1 a3 a4 ph
  else
    if a3 < 0 then
      f_M_near_76 F k10 a0 a1 a4 ph
    else
      (xgR ph 12 47 a0).bind fun t1 =>
      (xaJ ph 2 t1 a4).bind fun t2 =>
      (xgR ph 12 47 a0).bind fun t3 =>
      (xaJ ph 2 t3 a3).bind fun t4 =>
      if t2 ≤ t4 then
        f_M_near_81 F k10 a0 a1 a3 a4 ph
      else
        f_M_near_76 F k10 a0 a1 a4 ph
theorem r_M_near_48 {l : Launch} {g : px_G} {d F : Nat} {k10 : Nat → Int64 → Int32 → Int32 → px_H → Option (Int64 × px_H)} (hk10 : ∀ {a0 : Nat} {a1 : Int64} {a3 : Int32} {a4 : Int32} {ph : px_H} {r : Int64} {ph' : px_H}, k10 a0 a1 a3 a4 ph = some (r, ph') → PW l g (d + 1) m_M_near 10 [.ref a0, .long a1, px_u, .int a3, .int a4, px_u] [] ph (px_qJ r ph')) {a0 : Nat} {a1 : Int64} {a3 : Int32} {a4 : Int32} {s0 : Int32} {ph : px_H} {r : Int64} {ph' : px_H} (h : f_M_near_48 F k10 a0 a1 a3 a4 s0 ph = some (r, ph')) : PW l g (d + 1) m_M_near 48 [.ref a0, .long a1, px_u, .int a3, .int a4, px_u] [.int s0] ph (px_qJ r ph') := by
  unfold f_M_near_48 at h
  refine px_st (lv' := [_, _, _, _, _, _]) rfl rfl rfl rfl rfl rfl rfl ?_
  refine px_ld rfl rfl rfl rfl rfl ?_
  refine px_ifeq rfl (by decide) rfl (fun hc => ?_) (fun hc => ?_)
  · replace h := (if_pos hc).symm.trans h
    refine px_forget (n := 5) (lv' := [_, _, _, _, _, _]) rfl ?_
    exact (r_M_near_81 @hk10 h :)
  · replace h := (if_neg hc).symm.trans h
    refine px_ld rfl rfl rfl rfl rfl ?_
    refine px_iflt rfl (by decide) rfl (fun hc => ?_) (fun hc => ?_)
    · replace h := (if_pos hc).symm.trans h
      refine px_forget (n := 3) (lv' := [_, _, _, _, _, _]) rfl ?_
      refine px_forget (n := 5) (lv' := [_, _, _, _, _, _]) rfl ?_
      exact (r_M_near_76 @hk10 h :)
    · replace h := (if_neg hc).symm.trans h
      refine px_ld rfl rfl rfl rfl rfl ?_
      obtain ⟨t1, h0, h⟩ := xs_some h
      obtain ⟨fs, e1, e2⟩ := xgR_some h0
      refine px_get rfl e1 e2 rfl ?_
      refine px_ld rfl rfl rfl rfl rfl ?_
      obtain ⟨t2, h0, h⟩ := xs_some h
      obtain ⟨N, f, e1, e2, e3⟩ := xaJ_some h0
      subst e3
      refine px_lald rfl e1 rfl e2 rfl ?_
      refine px_ld rfl rfl rfl rfl rfl ?_
      obtain ⟨t3, h0, h⟩ := xs_some h
      obtain ⟨fs, e1, e2⟩ := xgR_some h0
      refine px_get rfl e1 e2 rfl ?_
      refine px_ld rfl rfl rfl rfl rfl ?_
      obtain ⟨t4, h0, h⟩ := xs_some h
      obtain ⟨N, f, e1, e2, e3⟩ := xaJ_some h0
      subst e3
      refine px_lald rfl e1 rfl e2 rfl ?_
      refine px_alu rfl rfl rfl ?_
      refine px_ifle rfl (by decide) rfl (fun hc => ?_) (fun hc => ?_)
      · replace h := (if_pos ((lg_cmp_le _ _).mp hc)).symm.trans h
        refine px_forget (n := 5) (lv' := [_, _, _, _, _, _]) rfl ?_
        exact (r_M_near_81 @hk10 h :)
      · replace h := (if_neg (fun q => hc ((lg_cmp_le _ _).mpr q))).symm.trans h
        refine px_forget (n := 3) (lv' := [_, _, _, _, _, _]) rfl ?_
        refine px_forget (n := 5) (lv' := [_, _, _, _, _, _]) rfl ?_
        exact (r_M_near_76 @hk10 h :)
def f_M_near_47 (F : Nat) (k10 : Nat → Int64 → Int32 → Int32 → px_H → Option (Int64 × px_H)) (a0 : Nat) (a1 : Int64) (a3 : Int32) (a4 : Int32) (ph : px_H) : Option (Int64 × px_H) :=
  f_M_near_48 F k10 a0 a1 a3 a4 (nI 0) ph
theorem r_M_near_47 {l : Launch} {g : px_G} {d F : Nat} {k10 : Nat → Int64 → Int32 → Int32 → px_H → Option (Int64 × px_H)} (hk10 : ∀ {a0 : Nat} {a1 : Int64} {a3 : Int32} {a4 : Int32} {ph : px_H} {r : Int64} {ph' : px_H}, k10 a0 a1 a3 a4 ph = some (r, ph') → PW l g (d + 1) m_M_near 10 [.ref a0, .long a1, px_u, .int a3, .int a4, px_u] [] ph (px_qJ r ph')) {a0 : Nat} {a1 : Int64} {a3 : Int32} {a4 : Int32} {ph : px_H} {r : Int64} {ph' : px_H} (h : f_M_near_47 F k10 a0 a1 a3 a4 ph = some (r, ph')) : PW l g (d + 1) m_M_near 47 [.ref a0, .long a1, px_u, .int a3, .int a4, px_u] [] ph (px_qJ r ph') := by
  unfold f_M_near_47 at h
  refine px_ic (k := 0) rfl rfl rfl ?_
  exact (r_M_near_48 @hk10 h :)
def f_M_near_10 (F : Nat) : Nat → Nat → Int64 → Int32 → Int32 → px_H → Option (Int64 × px_H)
  | 0, _, _, _, _, _ => none
  | n + 1, a0, a1, a3, a4, ph =>
    (xgI ph 12 44 a0).bind fun t1 =>
    if t1 ≤ a4 then
      f_M_near_89 F a0 a1 a3 ph
    else
      (xgR ph 12 47 a0).bind fun t2 =>
      (xaJ ph 2 t2 a4).bind fun t3 =>
      if t3 < (lN 0) then
        f_M_near_47 F (f_M_near_10 F n) a0 a1 a3 a4 ph
      else
        (xgR ph 12 47 a0).bind fun t4 =>
        (xaJ ph 2 t4 a4).bind fun t5 =>
        if a1 < t5 then
          f_M_near_47 F (f_M_near_10 F n) a0 a1 a3 a4 ph
        else
          f_M_near_48 F (f_M_near_10 F n) a0 a1 a3 a4 (nI 1) ph
theorem r_M_near_10 {l : Launch} {g : px_G} {d F : Nat} : ∀ (n : Nat) {a0 : Nat} {a1 : Int64} {a3 : Int32} {a4 : Int32} {ph : px_H} {r : Int64} {ph' : px_H}, f_M_near_10 F n a0 a1 a3 a4 ph = some (r, ph') → PW l g (d + 1) m_M_near 10 [.ref a0, .long a1, px_u, .int a3, .int a4, px_u] [] ph (px_qJ r ph') := by
  intro n
  induction n with
  | zero => intro _ _ _ _ _ _ _ h; cases h
  | succ n ih =>
    intro a0 a1 a3 a4 ph r ph' h
    unfold f_M_near_10 at h
    refine px_ld rfl rfl rfl rfl rfl ?_
    refine px_ld rfl rfl rfl rfl rfl ?_
    obtain ⟨t1, h0, h⟩ := xs_some h
    obtain ⟨fs, e1, e2⟩ := xgI_some h0
    refine px_get rfl e1 e2 rfl ?_
    refine px_icge rfl (by decide) rfl (fun hc => ?_) (fun hc => ?_)
    · replace h := (if_pos hc).symm.trans h
      refine px_forget (n := 4) (lv' := [_, _, _, _, _, _]) rfl ?_
      exact (r_M_near_89 h :)
    · replace h := (if_neg hc).symm.trans h
      refine px_ld rfl rfl rfl rfl rfl ?_
      obtain ⟨t2, h0, h⟩ := xs_some h
      obtain ⟨fs, e1, e2⟩ := xgR_some h0
      refine px_get rfl e1 e2 rfl ?_
      refine px_ld rfl rfl rfl rfl rfl ?_
      obtain ⟨t3, h0, h⟩ := xs_some h
      obtain ⟨N, f, e1, e2, e3⟩ := xaJ_some h0
      subst e3
      refine px_lald rfl e1 rfl e2 rfl ?_
      refine px_alu rfl rfl rfl ?_
      refine px_alu rfl rfl rfl ?_
      refine px_iflt rfl (by decide) rfl (fun hc => ?_) (fun hc => ?_)
      · replace h := (if_pos ((lg_cmp_lt _ _).mp hc)).symm.trans h
        exact (r_M_near_47 @ih h :)
      · replace h := (if_neg (fun q => hc ((lg_cmp_lt _ _).mpr q))).symm.trans h
        refine px_ld rfl rfl rfl rfl rfl ?_
        obtain ⟨t4, h0, h⟩ := xs_some h
        obtain ⟨fs, e1, e2⟩ := xgR_some h0
        refine px_get rfl e1 e2 rfl ?_
        refine px_ld rfl rfl rfl rfl rfl ?_
        obtain ⟨t5, h0, h⟩ := xs_some h
        obtain ⟨N, f, e1, e2, e3⟩ := xaJ_some h0
        subst e3
        refine px_lald rfl e1 rfl e2 rfl ?_
        refine px_ld rfl rfl rfl rfl rfl ?_
        refine px_alu rfl rfl rfl ?_
        refine px_ifgt rfl (by decide) rfl (fun hc => ?_) (fun hc => ?_)
        · replace h := (if_pos ((lg_cmp_gt _ _).mp hc)).symm.trans h
          exact (r_M_near_47 @ih h :)
        · replace h := (if_neg (fun q => hc ((lg_cmp_gt _ _).mpr q))).symm.trans h
          refine px_ic (k := 1) rfl rfl rfl ?_
          refine px_goto rfl (by decide) rfl ?_
          exact (r_M_near_48 @ih h :)
def f_M_near (F : Nat) (a0 : Nat) (a1 : Int64) (ph : px_H) : Option (Int64 × px_H) :=
  (xpI ph 12 0 a0 (nI 0)).bind fun ph1 =>
  f_M_near_10 F F a0 a1 (Int32.ofInt (-1)) (nI 0) ph1
theorem r_M_near {l : Launch} {g : px_G} {d F : Nat} {a0 : Nat} {a1 : Int64} {ph : px_H} {r : Int64} {ph' : px_H} (h : f_M_near F a0 a1 ph = some (r, ph')) : PW l g (d + 1) m_M_near 0 [.ref a0, .long a1, px_u, px_u, px_u, px_u] [] ph (px_qJ r ph') := by
  unfold f_M_near at h
  refine px_ld rfl rfl rfl rfl rfl ?_
  refine px_ic (k := 0) rfl rfl rfl ?_
  obtain ⟨ph1, h0, h⟩ := xs_some h
  obtain ⟨fs, e1, e2, e3⟩ := xpI_some h0
  subst e3
  refine px_put rfl e1 e2 trivial rfl ?_
  refine px_alu rfl rfl rfl ?_
  refine px_st (lv' := [_, _, _, _, _, _]) rfl rfl rfl rfl rfl rfl rfl ?_
  refine px_ic (k := 0) rfl rfl rfl ?_
  refine px_st (lv' := [_, _, _, _, _, _]) rfl rfl rfl rfl rfl rfl rfl ?_
  exact (r_M_near_10 _ h :)
def f_M_peek_62 (F : Nat) (s0 : Int32) (ph : px_H) : Option (Int32 × px_H) :=
  some (s0, ph)
theorem r_M_peek_62 {l : Launch} {g : px_G} {d F : Nat} {s0 : Int32} {ph : px_H} {r : Int32} {ph' : px_H} (h : f_M_peek_62 F s0 ph = some (r, ph')) : PW l g (d + 1) m_M_peek 62 [px_u, px_u, px_u, px_u, px_u, px_u] [.int s0] ph (px_qI r ph') := by
  unfold f_M_peek_62 at h
  cases h
  exact px_iret rfl (Or.inl rfl) rfl ⟨rfl, rfl⟩
def f_M_peek (F : Nat) (a0 : Nat) (a1 : Int64) (ph : px_H) : Option (Int32 × px_H) :=
  (xpI ph 12 0 a0 (nI 0)).bind fun ph1 =>
  (xo ph1 12 a0).bind fun _ =>
  xb (f_M_rowOf F a0 a1 ph1) fun t2 ph3 =>
  if 0 ≤ t2 then
    (xgR ph3 12 107 a0).bind fun t4 =>
    (xaJ ph3 2 t4 t2).bind fun t5 =>
    (xgR ph3 12 108 a0).bind fun t6 =>
    (xaJ ph3 2 t6 t2).bind fun t7 =>
    if t7 ≤ (a1 - t5) then
      f_M_peek_62 F (nI 0) ph3
    else
      (xgR ph3 12 100 a0).bind fun t8 =>
      (xgR ph3 12 106 a0).bind fun t9 =>
      (xaJ ph3 2 t9 t2).bind fun t10 =>
      (xaI ph3 0 t8 ((t10 + (a1 - t5)).toInt32)).bind fun t11 =>
      f_M_peek_62 F (t11 &&& (nI 255)) ph3
  else
    some (Int32.ofInt (-1), ph3)
theorem r_M_peek {l : Launch} {g : px_G} {d F : Nat} {a0 : Nat} {a1 : Int64} {ph : px_H} {r : Int32} {ph' : px_H} (h : f_M_peek F a0 a1 ph = some (r, ph')) : PW l g (d + 1) m_M_peek 0 [.ref a0, .long a1, px_u, px_u, px_u, px_u] [] ph (px_qI r ph') := by
  unfold f_M_peek at h
  refine px_ld rfl rfl rfl rfl rfl ?_
  refine px_ic (k := 0) rfl rfl rfl ?_
  obtain ⟨ph1, h0, h⟩ := xs_some h
  obtain ⟨fs, e1, e2, e3⟩ := xpI_some h0
  subst e3
  refine px_put rfl e1 e2 trivial rfl ?_
  refine px_ld rfl rfl rfl rfl rfl ?_
  refine px_ld rfl rfl rfl rfl rfl ?_
  obtain ⟨fs, h0, h⟩ := xs_some h
  have e1 := xo_some h0
  obtain ⟨t2, ph3, h0, h⟩ := xb_some h
  refine px_cV1 rfl rfl e1 rfl rfl rfl rfl rfl rfl rfl (r_M_rowOf h0 :) (fun _ _ q => nomatch q.2) (fun r ph' q => ?_)
  obtain ⟨rfl, q⟩ := q
  cases q
  refine px_st (lv' := [_, _, _, _, _, _]) rfl rfl rfl rfl rfl rfl rfl ?_
  refine px_ld rfl rfl rfl rfl rfl ?_
  refine px_ifge rfl rfl rfl (fun hc => ?_) (fun hc => ?_)
  · replace h := (if_pos hc).symm.trans h
    refine px_ld rfl rfl rfl rfl rfl ?_
    refine px_ld rfl rfl rfl rfl rfl ?_
    obtain ⟨t4, h0, h⟩ := xs_some h
    obtain ⟨fs, e1, e2⟩ := xgR_some h0
    refine px_get rfl e1 e2 rfl ?_
    refine px_ld rfl rfl rfl rfl rfl ?_
    obtain ⟨t5, h0, h⟩ := xs_some h
    obtain ⟨N, f, e1, e2, e3⟩ := xaJ_some h0
    subst e3
    refine px_lald rfl e1 rfl e2 rfl ?_
    refine px_alu rfl rfl rfl ?_
    refine px_st (lv' := [_, _, _, _, _, _]) rfl rfl rfl rfl rfl rfl rfl ?_
    refine px_ld rfl rfl rfl rfl rfl ?_
    refine px_ld rfl rfl rfl rfl rfl ?_
    obtain ⟨t6, h0, h⟩ := xs_some h
    obtain ⟨fs, e1, e2⟩ := xgR_some h0
    refine px_get rfl e1 e2 rfl ?_
    refine px_ld rfl rfl rfl rfl rfl ?_
    obtain ⟨t7, h0, h⟩ := xs_some h
    obtain ⟨N, f, e1, e2, e3⟩ := xaJ_some h0
    subst e3
    refine px_lald rfl e1 rfl e2 rfl ?_
    refine px_alu rfl rfl rfl ?_
    refine px_ifge rfl rfl rfl (fun hc => ?_) (fun hc => ?_)
    · replace h := (if_pos ((lg_cmp_ge _ _).mp hc)).symm.trans h
      refine px_ic (k := 0) rfl rfl rfl ?_
      refine px_forget (n := 0) (lv' := [_, _, _, _, _, _]) rfl ?_
      refine px_forget (n := 1) (lv' := [_, _, _, _, _, _]) rfl ?_
      refine px_forget (n := 3) (lv' := [_, _, _, _, _, _]) rfl ?_
      refine px_forget (n := 4) (lv' := [_, _, _, _, _, _]) rfl ?_
      exact (r_M_peek_62 h :)
    · replace h := (if_neg (fun q => hc ((lg_cmp_ge _ _).mpr q))).symm.trans h
      refine px_ld rfl rfl rfl rfl rfl ?_
      obtain ⟨t8, h0, h⟩ := xs_some h
      obtain ⟨fs, e1, e2⟩ := xgR_some h0
      refine px_get rfl e1 e2 rfl ?_
      refine px_ld rfl rfl rfl rfl rfl ?_
      obtain ⟨t9, h0, h⟩ := xs_some h
      obtain ⟨fs, e1, e2⟩ := xgR_some h0
      refine px_get rfl e1 e2 rfl ?_
      refine px_ld rfl rfl rfl rfl rfl ?_
      obtain ⟨t10, h0, h⟩ := xs_some h
      obtain ⟨N, f, e1, e2, e3⟩ := xaJ_some h0
      subst e3
      refine px_lald rfl e1 rfl e2 rfl ?_
      refine px_ld rfl rfl rfl rfl rfl ?_
      refine px_alu rfl rfl rfl ?_
      refine px_alu rfl rfl rfl ?_
      obtain ⟨t11, h0, h⟩ := xs_some h
      obtain ⟨N, f, e1, e2, e3⟩ := xaI_some h0
      subst e3
      refine px_bald rfl e1 rfl e2 rfl ?_
      refine px_ic (k := 255) rfl rfl rfl ?_
      refine px_alu rfl rfl rfl ?_
      refine px_goto rfl rfl rfl ?_
      refine px_forget (n := 0) (lv' := [_, _, _, _, _, _]) rfl ?_
      refine px_forget (n := 1) (lv' := [_, _, _, _, _, _]) rfl ?_
      refine px_forget (n := 3) (lv' := [_, _, _, _, _, _]) rfl ?_
      refine px_forget (n := 4) (lv' := [_, _, _, _, _, _]) rfl ?_
      exact (r_M_peek_62 h :)
  · replace h := (if_neg hc).symm.trans h
    refine px_alu rfl rfl rfl ?_
    cases h
    exact px_iret rfl (Or.inl rfl) rfl ⟨rfl, rfl⟩
