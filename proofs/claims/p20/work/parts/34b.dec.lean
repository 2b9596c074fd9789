/-! methods as functions: LinkHouse -/
def f_Layout_findSlot_214 (F : Nat) (c : px_CT) (ph : px_H) : Option (Unit × px_H) :=
  some ((), ph)
theorem r_Layout_findSlot_214 {l : Launch} {g : px_G} {d F : Nat} {ph : px_H} {r : Unit} {ph' : px_H} (h : f_Layout_findSlot_214 F (px_ct g) ph = some (r, ph')) : PW l g (d + 3) m_Layout_findSlot 214 [px_u, px_u, px_u, px_u, px_u, px_u, px_u, px_u, px_u, px_u, px_u] [] ph (px_qV r ph') := by
  unfold f_Layout_findSlot_214 at h
  cases h
  exact px_vret rfl rfl rfl ⟨rfl, rfl⟩
def f_Layout_findSlot_101 (F : Nat) (c : px_CT) (a0 : Nat) (a1 : Int32) (a6 : Int32) (a8 : Int32) (ph : px_H) : Option (Unit × px_H) :=
  (xo ph 2 a0).bind fun _ =>
  xb (f_Layout_slotOf F c a0 a1 a8 a6 ph) fun t1 ph2 =>
  if t1 = 0 then
    (xgI ph2 2 12 a0).bind fun t3 =>
    (xgR ph2 2 9 a0).bind fun t4 =>
    (xal ph2 1 t4).bind fun t5 =>
    if t5 ≤ t3 then
      f_Layout_findSlot_214 F c ph2
    else
      (xo ph2 2 a0).bind fun _ =>
      xb (f_Layout_slotKey F c a0 a1 a8 a6 ph2) fun t6 ph7 =>
      (xgR ph7 2 9 a0).bind fun t8 =>
      (xgI ph7 2 12 a0).bind fun t9 =>
      (xsI ph7 1 t8 t9 t6).bind fun ph10 =>
      (xgI ph10 2 12 a0).bind fun t11 =>
      (xpI ph10 2 12 a0 (t11 + (nI 1))).bind fun ph12 =>
      (xgR ph12 2 0 a0).bind fun t13 =>
      (xo ph12 3 t13).bind fun _ =>
      xb (f_Link_nameOf F c t13 a1 a8 ph12) fun t14 ph15 =>
      (match t14 with
        | none => (xgR ph15 2 10 a0).bind fun t17 =>
        (xgI ph15 2 12 a0).bind fun t18 =>
        (xsI ph15 1 t17 t6 t18).bind fun ph19 =>
        f_Layout_findSlot_214 F c ph19
        | some p16 => if a6 = 0 then
          (xgI ph15 2 12 a0).bind fun t20 =>
          (xpI ph15 5 15 p16 t20).bind fun ph21 =>
          f_Layout_findSlot_214 F c ph21
        else
          (xgI ph15 2 12 a0).bind fun t22 =>
          (xpI ph15 5 16 p16 t22).bind fun ph23 =>
          f_Layout_findSlot_214 F c ph23)
  else
    f_Layout_findSlot_214 F c ph2
theorem r_Layout_findSlot_101 {l : Launch} {g : px_G} {d F : Nat} {a0 : Nat} {a1 : Int32} {a6 : Int32} {a8 : Int32} {ph : px_H} {r : Unit} {ph' : px_H} (h : f_Layout_findSlot_101 F (px_ct g) a0 a1 a6 a8 ph = some (r, ph')) : PW l g (d + 3) m_Layout_findSlot 101 [.ref a0, .int a1, px_u, px_u, px_u, px_u, .int a6, px_u, .int a8, px_u, px_u] [] ph (px_qV r ph') := by
  unfold f_Layout_findSlot_101 at h
  refine px_ld rfl rfl rfl rfl rfl ?_
  refine px_ld rfl rfl rfl rfl rfl ?_
  refine px_ld rfl rfl rfl rfl rfl ?_
  refine px_ld rfl rfl rfl rfl rfl ?_
  obtain ⟨fs, h0, h⟩ := xs_some h
  have e1 := xo_some h0
  obtain ⟨t1, ph2, h0, h⟩ := xb_some h
  refine px_cV3 rfl rfl e1 rfl rfl rfl rfl rfl rfl rfl (r_Layout_slotOf h0 :) (fun _ _ q => nomatch q.2) (fun r ph' q => ?_)
  obtain ⟨rfl, q⟩ := q
  cases q
  refine px_ifne rfl (by decide) rfl (fun hc => ?_) (fun hc => ?_)
  · replace h := (if_neg hc).symm.trans h
    refine px_forget (n := 0) (lv' := [_, _, _, _, _, _, _, _, _, _, _]) rfl ?_
    refine px_forget (n := 1) (lv' := [_, _, _, _, _, _, _, _, _, _, _]) rfl ?_
    refine px_forget (n := 6) (lv' := [_, _, _, _, _, _, _, _, _, _, _]) rfl ?_
    refine px_forget (n := 8) (lv' := [_, _, _, _, _, _, _, _, _, _, _]) rfl ?_
    exact (r_Layout_findSlot_214 h :)
  · replace h := (if_pos hc).symm.trans h
    refine px_ld rfl rfl rfl rfl rfl ?_
    obtain ⟨t3, h0, h⟩ := xs_some h
    obtain ⟨fs, e1, e2⟩ := xgI_some h0
    refine px_get rfl e1 e2 rfl ?_
    refine px_ld rfl rfl rfl rfl rfl ?_
    obtain ⟨t4, h0, h⟩ := xs_some h
    obtain ⟨fs, e1, e2⟩ := xgR_some h0
    refine px_get rfl e1 e2 rfl ?_
    obtain ⟨t5, h0, h⟩ := xs_some h
    obtain ⟨x, e1, e3⟩ := xal_some h0
    subst e3
    refine px_alen rfl e1 rfl rfl ?_
    refine px_icge rfl (by decide) rfl (fun hc => ?_) (fun hc => ?_)
    · replace h := (if_pos hc).symm.trans h
      refine px_forget (n := 0) (lv' := [_, _, _, _, _, _, _, _, _, _, _]) rfl ?_
      refine px_forget (n := 1) (lv' := [_, _, _, _, _, _, _, _, _, _, _]) rfl ?_
      refine px_forget (n := 6) (lv' := [_, _, _, _, _, _, _, _, _, _, _]) rfl ?_
      refine px_forget (n := 8) (lv' := [_, _, _, _, _, _, _, _, _, _, _]) rfl ?_
      exact (r_Layout_findSlot_214 h :)
    · replace h := (if_neg hc).symm.trans h
      refine px_ld rfl rfl rfl rfl rfl ?_
      refine px_ld rfl rfl rfl rfl rfl ?_
      refine px_ld rfl rfl rfl rfl rfl ?_
      refine px_ld rfl rfl rfl rfl rfl ?_
      obtain ⟨fs, h0, h⟩ := xs_some h
      have e1 := xo_some h0
      obtain ⟨t6, ph7, h0, h⟩ := xb_some h
      refine px_cV3 rfl rfl e1 rfl rfl rfl rfl rfl rfl rfl (r_Layout_slotKey h0 :) (fun _ _ q => nomatch q.2) (fun r ph' q => ?_)
      obtain ⟨rfl, q⟩ := q
      cases q
      refine px_st (lv' := [_, _, _, _, _, _, _, _, _, _, _]) rfl rfl rfl rfl rfl rfl rfl ?_
      refine px_ld rfl rfl rfl rfl rfl ?_
      obtain ⟨t8, h0, h⟩ := xs_some h
      obtain ⟨fs, e1, e2⟩ := xgR_some h0
      refine px_get rfl e1 e2 rfl ?_
      refine px_ld rfl rfl rfl rfl rfl ?_
      obtain ⟨t9, h0, h⟩ := xs_some h
      obtain ⟨fs, e1, e2⟩ := xgI_some h0
      refine px_get rfl e1 e2 rfl ?_
      refine px_ld rfl rfl rfl rfl rfl ?_
      obtain ⟨ph10, h0, h⟩ := xs_some h
      obtain ⟨N, f, e1, e2, e3⟩ := xsI_some h0
      subst e3
      refine px_iast rfl e1 rfl e2 rfl ?_
      refine px_ld rfl rfl rfl rfl rfl ?_
      refine px_alu rfl rfl rfl ?_
      obtain ⟨t11, h0, h⟩ := xs_some h
      obtain ⟨fs, e1, e2⟩ := xgI_some h0
      refine px_get rfl e1 e2 rfl ?_
      refine px_ic (k := 1) rfl rfl rfl ?_
      refine px_alu rfl rfl rfl ?_
      obtain ⟨ph12, h0, h⟩ := xs_some h
      obtain ⟨fs, e1, e2, e3⟩ := xpI_some h0
      subst e3
      refine px_put rfl e1 e2 trivial rfl ?_
      refine px_ld rfl rfl rfl rfl rfl ?_
      obtain ⟨t13, h0, h⟩ := xs_some h
      obtain ⟨fs, e1, e2⟩ := xgR_some h0
      refine px_get rfl e1 e2 rfl ?_
      refine px_ld rfl rfl rfl rfl rfl ?_
      refine px_ld rfl rfl rfl rfl rfl ?_
      obtain ⟨fs, h0, h⟩ := xs_some h
      have e1 := xo_some h0
      obtain ⟨t14, ph15, h0, h⟩ := xb_some h
      refine px_cV2 rfl rfl e1 rfl rfl rfl rfl rfl rfl rfl (r_Link_nameOf h0 :) (fun _ _ q => nomatch q.2) (fun r ph' q => ?_)
      obtain ⟨rfl, q⟩ := q
      cases q
      refine px_st (lv' := [.ref a0, .int a1, px_u, px_u, px_u, px_u, .int a6, px_u, .int a8, .int t6, va_rf t14]) rfl rfl (by first | rfl | (cases t14 <;> rfl)) (by first | rfl | (cases t14 <;> rfl)) rfl (by first | rfl | (cases t14 <;> rfl)) rfl ?_
      refine px_ld rfl rfl rfl (by first | rfl | (cases t14 <;> rfl)) rfl ?_
      cases t14 with
      | none =>
        refine px_ifnnN rfl rfl ?_
        refine px_ld rfl rfl rfl rfl rfl ?_
        obtain ⟨t17, h0, h⟩ := xs_some h
        obtain ⟨fs, e1, e2⟩ := xgR_some h0
        refine px_get rfl e1 e2 rfl ?_
        refine px_ld rfl rfl rfl rfl rfl ?_
        refine px_ld rfl rfl rfl rfl rfl ?_
        obtain ⟨t18, h0, h⟩ := xs_some h
        obtain ⟨fs, e1, e2⟩ := xgI_some h0
        refine px_get rfl e1 e2 rfl ?_
        obtain ⟨ph19, h0, h⟩ := xs_some h
        obtain ⟨N, f, e1, e2, e3⟩ := xsI_some h0
        subst e3
        refine px_iast rfl e1 rfl e2 rfl ?_
        refine px_goto rfl (by decide) rfl ?_
        refine px_forget (n := 0) (lv' := [_, _, _, _, _, _, _, _, _, _, _]) rfl ?_
        refine px_forget (n := 1) (lv' := [_, _, _, _, _, _, _, _, _, _, _]) rfl ?_
        refine px_forget (n := 6) (lv' := [_, _, _, _, _, _, _, _, _, _, _]) rfl ?_
        refine px_forget (n := 8) (lv' := [_, _, _, _, _, _, _, _, _, _, _]) rfl ?_
        refine px_forget (n := 9) (lv' := [_, _, _, _, _, _, _, _, _, _, _]) rfl ?_
        refine px_forget (n := 10) (lv' := [_, _, _, _, _, _, _, _, _, _, _]) rfl ?_
        exact (r_Layout_findSlot_214 h :)
      | some p16 =>
        refine px_ifnnR rfl (by decide) rfl ?_
        refine px_ld rfl rfl rfl rfl rfl ?_
        refine px_ifeq rfl (by decide) rfl (fun hc => ?_) (fun hc => ?_)
        · replace h := (if_pos hc).symm.trans h
          refine px_ld rfl rfl rfl rfl rfl ?_
          refine px_ld rfl rfl rfl rfl rfl ?_
          obtain ⟨t20, h0, h⟩ := xs_some h
          obtain ⟨fs, e1, e2⟩ := xgI_some h0
          refine px_get rfl e1 e2 rfl ?_
          obtain ⟨ph21, h0, h⟩ := xs_some h
          obtain ⟨fs, e1, e2, e3⟩ := xpI_some h0
          subst e3
          refine px_put rfl e1 e2 trivial rfl ?_
          refine px_forget (n := 0) (lv' := [_, _, _, _, _, _, _, _, _, _, _]) rfl ?_
          refine px_forget (n := 1) (lv' := [_, _, _, _, _, _, _, _, _, _, _]) rfl ?_
          refine px_forget (n := 6) (lv' := [_, _, _, _, _, _, _, _, _, _, _]) rfl ?_
          refine px_forget (n := 8) (lv' := [_, _, _, _, _, _, _, _, _, _, _]) rfl ?_
          refine px_forget (n := 9) (lv' := [_, _, _, _, _, _, _, _, _, _, _]) rfl ?_
          refine px_forget (n := 10) (lv' := [_, _, _, _, _, _, _, _, _, _, _]) rfl ?_
          exact (r_Layout_findSlot_214 h :)
        · replace h := (if_neg hc).symm.trans h
          refine px_ld rfl rfl rfl rfl rfl ?_
          refine px_ld rfl rfl rfl rfl rfl ?_
          obtain ⟨t22, h0, h⟩ := xs_some h
          obtain ⟨fs, e1, e2⟩ := xgI_some h0
          refine px_get rfl e1 e2 rfl ?_
          obtain ⟨ph23, h0, h⟩ := xs_some h
          obtain ⟨fs, e1, e2, e3⟩ := xpI_some h0
          subst e3
          refine px_put rfl e1 e2 trivial rfl ?_
          refine px_goto rfl (by decide) rfl ?_
          refine px_forget (n := 0) (lv' := [_, _, _, _, _, _, _, _, _, _, _]) rfl ?_
          refine px_forget (n := 1) (lv' := [_, _, _, _, _, _, _, _, _, _, _]) rfl ?_
          refine px_forget (n := 6) (lv' := [_, _, _, _, _, _, _, _, _, _, _]) rfl ?_
          refine px_forget (n := 8) (lv' := [_, _, _, _, _, _, _, _, _, _, _]) rfl ?_
          refine px_forget (n := 9) (lv' := [_, _, _, _, _, _, _, _, _, _, _]) rfl ?_
          refine px_forget (n := 10) (lv' := [_, _, _, _, _, _, _, _, _, _, _]) rfl ?_
          exact (r_Layout_findSlot_214 h :)
def f_Layout_findSlot_76 (F : Nat) (c : px_CT) (a0 : Nat) (a1 : Int32) (a2 : Int32) (a4 : Option Nat) (a6 : Int32) (s0 : Int32) (ph : px_H) : Option (Unit × px_H) :=
  (a4).bind fun p1 =>
  (xo ph 7 p1).bind fun _ =>
  xb (f_ObjectFile_num F c p1 (a2 + (nI 12)) (nI 4) ph) fun t2 ph3 =>
  if a6 = 0 then
    if s0 = 0 then
      f_Layout_findSlot_214 F c ph3
    else
      f_Layout_findSlot_101 F c a0 a1 a6 t2.toInt32 ph3
  else
    f_Layout_findSlot_101 F c a0 a1 a6 t2.toInt32 ph3
theorem r_Layout_findSlot_76 {l : Launch} {g : px_G} {d F : Nat} {a0 : Nat} {a1 : Int32} {a2 : Int32} {a4 : Option Nat} {a6 : Int32} {s0 : Int32} {ph : px_H} {r : Unit} {ph' : px_H} (h : f_Layout_findSlot_76 F (px_ct g) a0 a1 a2 a4 a6 s0 ph = some (r, ph')) : PW l g (d + 3) m_Layout_findSlot 76 [.ref a0, .int a1, .int a2, px_u, va_rf a4, px_u, .int a6, px_u, px_u, px_u, px_u] [.int s0] ph (px_qV r ph') := by
  unfold f_Layout_findSlot_76 at h
  refine px_st (lv' := [_, _, _, _, _, _, _, _, _, _, _]) rfl rfl rfl rfl rfl rfl rfl ?_
  refine px_ld rfl rfl rfl (by first | rfl | (cases a4 <;> rfl)) rfl ?_
  refine px_ld rfl rfl rfl rfl rfl ?_
  refine px_ic (k := 12) rfl rfl rfl ?_
  refine px_alu rfl rfl rfl ?_
  refine px_ic (k := 4) rfl rfl rfl ?_
  obtain ⟨p1, h0, h⟩ := xs_some h
  revert h
  subst h0
  intro h
  obtain ⟨fs, h0, h⟩ := xs_some h
  have e1 := xo_some h0
  obtain ⟨t2, ph3, h0, h⟩ := xb_some h
  refine px_cV2 rfl rfl e1 rfl rfl rfl rfl rfl rfl rfl (r_ObjectFile_num h0 :) (fun _ _ q => nomatch q.2) (fun r ph' q => ?_)
  obtain ⟨rfl, q⟩ := q
  cases q
  refine px_alu rfl rfl rfl ?_
  refine px_st (lv' := [_, _, _, _, _, _, _, _, _, _, _]) rfl rfl rfl rfl rfl rfl rfl ?_
  refine px_ld rfl rfl rfl rfl rfl ?_
  refine px_ifne rfl (by decide) rfl (fun hc => ?_) (fun hc => ?_)
  · replace h := (if_neg hc).symm.trans h
    refine px_forget (n := 2) (lv' := [_, _, _, _, _, _, _, _, _, _, _]) rfl ?_
    refine px_forget (n := 4) (lv' := [_, _, _, _, _, _, _, _, _, _, _]) rfl ?_
    refine px_forget (n := 7) (lv' := [_, _, _, _, _, _, _, _, _, _, _]) rfl ?_
    exact (r_Layout_findSlot_101 h :)
  · replace h := (if_pos hc).symm.trans h
    refine px_ld rfl rfl rfl rfl rfl ?_
    refine px_ifeq rfl (by decide) rfl (fun hc => ?_) (fun hc => ?_)
    · replace h := (if_pos hc).symm.trans h
      refine px_forget (n := 0) (lv' := [_, _, _, _, _, _, _, _, _, _, _]) rfl ?_
      refine px_forget (n := 1) (lv' := [_, _, _, _, _, _, _, _, _, _, _]) rfl ?_
      refine px_forget (n := 2) (lv' := [_, _, _, _, _, _, _, _, _, _, _]) rfl ?_
      refine px_forget (n := 4) (lv' := [_, _, _, _, _, _, _, _, _, _, _]) rfl ?_
      refine px_forget (n := 6) (lv' := [_, _, _, _, _, _, _, _, _, _, _]) rfl ?_
      refine px_forget (n := 7) (lv' := [_, _, _, _, _, _, _, _, _, _, _]) rfl ?_
      refine px_forget (n := 8) (lv' := [_, _, _, _, _, _, _, _, _, _, _]) rfl ?_
      exact (r_Layout_findSlot_214 h :)
    · replace h := (if_neg hc).symm.trans h
      refine px_forget (n := 2) (lv' := [_, _, _, _, _, _, _, _, _, _, _]) rfl ?_
      refine px_forget (n := 4) (lv' := [_, _, _, _, _, _, _, _, _, _, _]) rfl ?_
      refine px_forget (n := 7) (lv' := [_, _, _, _, _, _, _, _, _, _, _]) rfl ?_
      exact (r_Layout_findSlot_101 h :)
def f_Layout_findSlot_75 (F : Nat) (c : px_CT) (a0 : Nat) (a1 : Int32) (a2 : Int32) (a4 : Option Nat) (a6 : Int32) (ph : px_H) : Option (Unit × px_H) :=
  f_Layout_findSlot_76 F c a0 a1 a2 a4 a6 (nI 0) ph
theorem r_Layout_findSlot_75 {l : Launch} {g : px_G} {d F : Nat} {a0 : Nat} {a1 : Int32} {a2 : Int32} {a4 : Option Nat} {a6 : Int32} {ph : px_H} {r : Unit} {ph' : px_H} (h : f_Layout_findSlot_75 F (px_ct g) a0 a1 a2 a4 a6 ph = some (r, ph')) : PW l g (d + 3) m_Layout_findSlot 75 [.ref a0, .int a1, .int a2, px_u, va_rf a4, px_u, .int a6, px_u, px_u, px_u, px_u] [] ph (px_qV r ph') := by
  unfold f_Layout_findSlot_75 at h
  refine px_ic (k := 0) rfl rfl rfl ?_
  exact (r_Layout_findSlot_76 h :)
def f_Layout_findSlot_71 (F : Nat) (c : px_CT) (a0 : Nat) (a1 : Int32) (a2 : Int32) (a4 : Option Nat) (a6 : Int32) (ph : px_H) : Option (Unit × px_H) :=
  f_Layout_findSlot_76 F c a0 a1 a2 a4 a6 (nI 1) ph
theorem r_Layout_findSlot_71 {l : Launch} {g : px_G} {d F : Nat} {a0 : Nat} {a1 : Int32} {a2 : Int32} {a4 : Option Nat} {a6 : Int32} {ph : px_H} {r : Unit} {ph' : px_H} (h : f_Layout_findSlot_71 F (px_ct g) a0 a1 a2 a4 a6 ph = some (r, ph')) : PW l g (d + 3) m_Layout_findSlot 71 [.ref a0, .int a1, .int a2, px_u, va_rf a4, px_u, .int a6, px_u, px_u, px_u, px_u] [] ph (px_qV r ph') := by
  unfold f_Layout_findSlot_71 at h
  refine px_ic (k := 1) rfl rfl rfl ?_
  refine px_goto rfl (by decide) rfl ?_
  exact (r_Layout_findSlot_76 h :)
def f_Layout_findSlot_58 (F : Nat) (c : px_CT) (a0 : Nat) (a1 : Int32) (a2 : Int32) (a3 : Option Nat) (a4 : Option Nat) (a6 : Int32) (ph : px_H) : Option (Unit × px_H) :=
  (xgR ph 2 0 a0).bind fun t1 =>
  (xo ph 3 t1).bind fun _ =>
  xb (f_Link_isShort F c t1 a1 a2 a3 ph) fun t2 ph3 =>
  if t2 = 0 then
    f_Layout_findSlot_71 F c a0 a1 a2 a4 a6 ph3
  else
    f_Layout_findSlot_75 F c a0 a1 a2 a4 a6 ph3
theorem r_Layout_findSlot_58 {l : Launch} {g : px_G} {d F : Nat} {a0 : Nat} {a1 : Int32} {a2 : Int32} {a3 : Option Nat} {a4 : Option Nat} {a6 : Int32} {ph : px_H} {r : Unit} {ph' : px_H} (h : f_Layout_findSlot_58 F (px_ct g) a0 a1 a2 a3 a4 a6 ph = some (r, ph')) : PW l g (d + 3) m_Layout_findSlot 58 [.ref a0, .int a1, .int a2, va_rf a3, va_rf a4, px_u, .int a6, px_u, px_u, px_u, px_u] [] ph (px_qV r ph') := by
  unfold f_Layout_findSlot_58 at h
  refine px_ld rfl rfl rfl rfl rfl ?_
  obtain ⟨t1, h0, h⟩ := xs_some h
  obtain ⟨fs, e1, e2⟩ := xgR_some h0
  refine px_get rfl e1 e2 rfl ?_
  refine px_ld rfl rfl rfl rfl rfl ?_
  refine px_ld rfl rfl rfl rfl rfl ?_
  refine px_ld rfl rfl rfl (by first | rfl | (cases a3 <;> rfl)) rfl ?_
  obtain ⟨fs, h0, h⟩ := xs_some h
  have e1 := xo_some h0
  obtain ⟨t2, ph3, h0, h⟩ := xb_some h
  refine px_cV3 (lv0 := [.ref t1, .int a1, .int a2, va_rf a3, px_u, px_u, px_u, px_u, px_u, px_u, px_u, px_u, px_u]) rfl rfl e1 rfl rfl rfl (by first | rfl | (cases a3 <;> rfl)) rfl (by first | rfl | (cases a3 <;> rfl)) rfl (r_Link_isShort h0 :) (fun _ _ q => nomatch q.2) (fun r ph' q => ?_)
  obtain ⟨rfl, q⟩ := q
  cases q
  refine px_ifne rfl (by decide) rfl (fun hc => ?_) (fun hc => ?_)
  · replace h := (if_neg hc).symm.trans h
    refine px_forget (n := 3) (lv' := [_, _, _, _, _, _, _, _, _, _, _]) rfl ?_
    exact (r_Layout_findSlot_75 h :)
  · replace h := (if_pos hc).symm.trans h
    refine px_forget (n := 3) (lv' := [_, _, _, _, _, _, _, _, _, _, _]) rfl ?_
    exact (r_Layout_findSlot_71 h :)
def f_Layout_findSlot_35 (F : Nat) (c : px_CT) (a0 : Nat) (a1 : Int32) (a2 : Int32) (a3 : Option Nat) (a4 : Option Nat) (a5 : Int32) (s0 : Int32) (ph : px_H) : Option (Unit × px_H) :=
  if a5 = (nI 9) then
    f_Layout_findSlot_71 F c a0 a1 a2 a4 s0 ph
  else
    if a5 = (nI 41) then
      f_Layout_findSlot_58 F c a0 a1 a2 a3 a4 s0 ph
    else
      if a5 = (nI 42) then
        f_Layout_findSlot_58 F c a0 a1 a2 a3 a4 s0 ph
      else
        f_Layout_findSlot_75 F c a0 a1 a2 a4 s0 ph
theorem r_Layout_findSlot_35 {l : Launch} {g : px_G} {d F : Nat} {a0 : Nat} {a1 : Int32} {a2 : Int32} {a3 : Option Nat} {a4 : Option Nat} {a5 : Int32} {s0 : Int32} {ph : px_H} {r : Unit} {ph' : px_H} (h : f_Layout_findSlot_35 F (px_ct g) a0 a1 a2 a3 a4 a5 s0 ph = some (r, ph')) : PW l g (d + 3) m_Layout_findSlot 35 [.ref a0, .int a1, .int a2, va_rf a3, va_rf a4, .int a5, px_u, px_u, px_u, px_u, px_u] [.int s0] ph (px_qV r ph') := by
  unfold f_Layout_findSlot_35 at h
  refine px_st (lv' := [_, _, _, _, _, _, _, _, _, _, _]) rfl rfl rfl rfl rfl rfl rfl ?_
  refine px_ld rfl rfl rfl rfl rfl ?_
  refine px_ic (k := 9) rfl rfl rfl ?_
  refine px_iceq rfl (by decide) rfl (fun hc => ?_) (fun hc => ?_)
  · replace h := (if_pos hc).symm.trans h
    refine px_forget (n := 3) (lv' := [_, _, _, _, _, _, _, _, _, _, _]) rfl ?_
    refine px_forget (n := 5) (lv' := [_, _, _, _, _, _, _, _, _, _, _]) rfl ?_
    exact (r_Layout_findSlot_71 h :)
  · replace h := (if_neg hc).symm.trans h
    refine px_ld rfl rfl rfl rfl rfl ?_
    refine px_ic (k := 41) rfl rfl rfl ?_
    refine px_iceq rfl (by decide) rfl (fun hc => ?_) (fun hc => ?_)
    · replace h := (if_pos hc).symm.trans h
      refine px_forget (n := 5) (lv' := [_, _, _, _, _, _, _, _, _, _, _]) rfl ?_
      exact (r_Layout_findSlot_58 h :)
    · replace h := (if_neg hc).symm.trans h
      refine px_ld rfl rfl rfl rfl rfl ?_
      refine px_ic (k := 42) rfl rfl rfl ?_
      refine px_icne rfl (by decide) rfl (fun hc => ?_) (fun hc => ?_)
      · replace h := (if_neg hc).symm.trans h
        refine px_forget (n := 3) (lv' := [_, _, _, _, _, _, _, _, _, _, _]) rfl ?_
        refine px_forget (n := 5) (lv' := [_, _, _, _, _, _, _, _, _, _, _]) rfl ?_
        exact (r_Layout_findSlot_75 h :)
      · replace h := (if_pos hc).symm.trans h
        refine px_forget (n := 5) (lv' := [_, _, _, _, _, _, _, _, _, _, _]) rfl ?_
        exact (r_Layout_findSlot_58 h :)
def f_Layout_findSlot (F : Nat) (c : px_CT) (a0 : Nat) (a1 : Int32) (a2 : Int32) (a3 : Option Nat) (ph : px_H) : Option (Unit × px_H) :=
  (xgR ph 2 0 a0).bind fun t1 =>
  (xo ph 3 t1).bind fun _ =>
  xb (f_Link_object F c t1 a1 ph) fun t2 ph3 =>
  (t2).bind fun p4 =>
  (xo ph3 7 p4).bind fun _ =>
  xb (f_ObjectFile_num F c p4 (a2 + (nI 8)) (nI 4) ph3) fun t5 ph6 =>
  if t5.toInt32 = (nI 22) then
    f_Layout_findSlot_35 F c a0 a1 a2 a3 (some p4) t5.toInt32 (nI 1) ph6
  else
    f_Layout_findSlot_35 F c a0 a1 a2 a3 (some p4) t5.toInt32 (nI 0) ph6
theorem r_Layout_findSlot {l : Launch} {g : px_G} {d F : Nat} {a0 : Nat} {a1 : Int32} {a2 : Int32} {a3 : Option Nat} {ph : px_H} {r : Unit} {ph' : px_H} (h : f_Layout_findSlot F (px_ct g) a0 a1 a2 a3 ph = some (r, ph')) : PW l g (d + 3) m_Layout_findSlot 0 [.ref a0, .int a1, .int a2, va_rf a3, px_u, px_u, px_u, px_u, px_u, px_u, px_u] [] ph (px_qV r ph') := by
  unfold f_Layout_findSlot at h
  refine px_ld rfl rfl rfl rfl rfl ?_
  obtain ⟨t1, h0, h⟩ := xs_some h
  obtain ⟨fs, e1, e2⟩ := xgR_some h0
  refine px_get rfl e1 e2 rfl ?_
  refine px_ld rfl rfl rfl rfl rfl ?_
  obtain ⟨fs, h0, h⟩ := xs_some h
  have e1 := xo_some h0
  obtain ⟨t2, ph3, h0, h⟩ := xb_some h
  refine px_cV1 rfl rfl e1 rfl rfl rfl rfl rfl rfl rfl (r_Link_object h0 :) (fun _ _ q => nomatch q.2) (fun r ph' q => ?_)
  obtain ⟨rfl, q⟩ := q
  cases q
  refine px_st (lv' := [.ref a0, .int a1, .int a2, va_rf a3, va_rf t2, px_u, px_u, px_u, px_u, px_u, px_u]) rfl rfl (by first | rfl | (cases t2 <;> rfl)) (by first | rfl | (cases t2 <;> rfl)) (by first | rfl | (cases a3 <;> rfl)) (by first | rfl | (cases t2 <;> rfl)) rfl ?_
  refine px_ld rfl rfl rfl (by first | rfl | (cases t2 <;> rfl)) rfl ?_
  refine px_ld rfl rfl rfl rfl rfl ?_
  refine px_ic (k := 8) rfl rfl rfl ?_
  refine px_alu rfl rfl rfl ?_
  refine px_ic (k := 4) rfl rfl rfl ?_
  obtain ⟨p4, h0, h⟩ := xs_some h
  revert h
  subst h0
  intro h
  obtain ⟨fs, h0, h⟩ := xs_some h
  have e1 := xo_some h0
  obtain ⟨t5, ph6, h0, h⟩ := xb_some h
  refine px_cV2 rfl rfl e1 rfl rfl rfl rfl rfl rfl rfl (r_ObjectFile_num h0 :) (fun _ _ q => nomatch q.2) (fun r ph' q => ?_)
  obtain ⟨rfl, q⟩ := q
  cases q
  refine px_alu rfl rfl rfl ?_
  refine px_st (lv' := [_, _, _, _, _, _, _, _, _, _, _]) rfl rfl rfl rfl rfl rfl rfl ?_
  refine px_ld rfl rfl rfl rfl rfl ?_
  refine px_ic (k := 22) rfl rfl rfl ?_
  refine px_icne rfl (by decide) rfl (fun hc => ?_) (fun hc => ?_)
  · replace h := (if_neg hc).symm.trans h
    refine px_ic (k := 0) rfl rfl rfl ?_
    exact (r_Layout_findSlot_35 h :)
  · replace h := (if_pos hc).symm.trans h
    refine px_ic (k := 1) rfl rfl rfl ?_
    refine px_goto rfl (by decide) rfl ?_
    exact (r_Layout_findSlot_35 h :)
def f_Layout_findSlots_149 (F : Nat) (c : px_CT) (ph : px_H) : Option (Unit × px_H) :=
  some ((), ph)
theorem r_Layout_findSlots_149 {l : Launch} {g : px_G} {d F : Nat} {ph : px_H} {r : Unit} {ph' : px_H} (h : f_Layout_findSlots_149 F (px_ct g) ph = some (r, ph')) : PW l g (d + 4) m_Layout_findSlots 149 [px_u, px_u, px_u, px_u, px_u, px_u, px_u, px_u] [] ph (px_qV r ph') := by
  unfold f_Layout_findSlots_149 at h
  cases h
  exact px_vret rfl rfl rfl ⟨rfl, rfl⟩
def f_Layout_findSlots_143 (F : Nat) (c : px_CT) (k41 : Nat → Int32 → px_H → Option (Unit × px_H)) (a0 : Nat) (a1 : Int32) (ph : px_H) : Option (Unit × px_H) :=
  k41 a0 (a1 + nI 1) ph
theorem r_Layout_findSlots_143 {l : Launch} {g : px_G} {d F : Nat} {k41 : Nat → Int32 → px_H → Option (Unit × px_H)} (hk41 : ∀ {a0 : Nat} {a1 : Int32} {ph : px_H} {r : Unit} {ph' : px_H}, k41 a0 a1 ph = some (r, ph') → PW l g (d + 4) m_Layout_findSlots 41 [.ref a0, .int a1, px_u, px_u, px_u, px_u, px_u, px_u] [] ph (px_qV r ph')) {a0 : Nat} {a1 : Int32} {ph : px_H} {r : Unit} {ph' : px_H} (h : f_Layout_findSlots_143 F (px_ct g) k41 a0 a1 ph = some (r, ph')) : PW l g (d + 4) m_Layout_findSlots 143 [.ref a0, .int a1, px_u, px_u, px_u, px_u, px_u, px_u] [] ph (px_qV r ph') := by
  unfold f_Layout_findSlots_143 at h
  refine px_iinc (lv' := [_, _, _, _, _, _, _, _]) rfl rfl rfl rfl rfl rfl ?_
  refine px_goto rfl (by decide) rfl ?_
  exact (hk41 h :)
def f_Layout_findSlots_137 (F : Nat) (c : px_CT) (k41 : Nat → Int32 → px_H → Option (Unit × px_H)) (k63 : Nat → Int32 → Option Nat → Int32 → px_H → Option (Unit × px_H)) (a0 : Nat) (a1 : Int32) (a2 : Option Nat) (a3 : Int32) (ph : px_H) : Option (Unit × px_H) :=
  k63 a0 a1 a2 (a3 + nI 1) ph
theorem r_Layout_findSlots_137 {l : Launch} {g : px_G} {d F : Nat} {k41 : Nat → Int32 → px_H → Option (Unit × px_H)} (hk41 : ∀ {a0 : Nat} {a1 : Int32} {ph : px_H} {r : Unit} {ph' : px_H}, k41 a0 a1 ph = some (r, ph') → PW l g (d + 4) m_Layout_findSlots 41 [.ref a0, .int a1, px_u, px_u, px_u, px_u, px_u, px_u] [] ph (px_qV r ph')) {k63 : Nat → Int32 → Option Nat → Int32 → px_H → Option (Unit × px_H)} (hk63 : ∀ {a0 : Nat} {a1 : Int32} {a2 : Option Nat} {a3 : Int32} {ph : px_H} {r : Unit} {ph' : px_H}, k63 a0 a1 a2 a3 ph = some (r, ph') → PW l g (d + 4) m_Layout_findSlots 63 [.ref a0, .int a1, va_rf a2, .int a3, px_u, px_u, px_u, px_u] [] ph (px_qV r ph')) {a0 : Nat} {a1 : Int32} {a2 : Option Nat} {a3 : Int32} {ph : px_H} {r : Unit} {ph' : px_H} (h : f_Layout_findSlots_137 F (px_ct g) k41 k63 a0 a1 a2 a3 ph = some (r, ph')) : PW l g (d + 4) m_Layout_findSlots 137 [.ref a0, .int a1, va_rf a2, .int a3, px_u, px_u, px_u, px_u] [] ph (px_qV r ph') := by
  unfold f_Layout_findSlots_137 at h
  refine px_iinc (lv' := [_, _, _, _, _, _, _, _]) rfl rfl rfl (by first | rfl | (cases a2 <;> rfl)) rfl rfl ?_
  refine px_goto rfl (by decide) rfl ?_
  exact (hk63 h :)
def f_Layout_findSlots_109 (F : Nat) (c : px_CT) (k41 : Nat → Int32 → px_H → Option (Unit × px_H)) (k63 : Nat → Int32 → Option Nat → Int32 → px_H → Option (Unit × px_H)) : Nat → Nat → Int32 → Option Nat → Int32 → Option Nat → Int32 → Int32 → Int32 → px_H → Option (Unit × px_H)
  | 0, _, _, _, _, _, _, _, _, _ => none
  | n + 1, a0, a1, a2, a3, a4, a5, a6, a7, ph =>
    if a5 ≤ a7 then
      f_Layout_findSlots_137 F c k41 k63 a0 a1 a2 a3 ph
    else
      (xo ph 2 a0).bind fun _ =>
      xb (f_Layout_findSlot F c a0 a1 (a6 + ((nI 24) * a7)) a4 ph) fun _ ph1 =>
      f_Layout_findSlots_109 F c k41 k63 n a0 a1 a2 a3 a4 a5 a6 (a7 + nI 1) ph1
theorem r_Layout_findSlots_109 {l : Launch} {g : px_G} {d F : Nat} {k41 : Nat → Int32 → px_H → Option (Unit × px_H)} (hk41 : ∀ {a0 : Nat} {a1 : Int32} {ph : px_H} {r : Unit} {ph' : px_H}, k41 a0 a1 ph = some (r, ph') → PW l g (d + 4) m_Layout_findSlots 41 [.ref a0, .int a1, px_u, px_u, px_u, px_u, px_u, px_u] [] ph (px_qV r ph')) {k63 : Nat → Int32 → Option Nat → Int32 → px_H → Option (Unit × px_H)} (hk63 : ∀ {a0 : Nat} {a1 : Int32} {a2 : Option Nat} {a3 : Int32} {ph : px_H} {r : Unit} {ph' : px_H}, k63 a0 a1 a2 a3 ph = some (r, ph') → PW l g (d + 4) m_Layout_findSlots 63 [.ref a0, .int a1, va_rf a2, .int a3, px_u, px_u, px_u, px_u] [] ph (px_qV r ph')) : ∀ (n : Nat) {a0 : Nat} {a1 : Int32} {a2 : Option Nat} {a3 : Int32} {a4 : Option Nat} {a5 : Int32} {a6 : Int32} {a7 : Int32} {ph : px_H} {r : Unit} {ph' : px_H}, f_Layout_findSlots_109 F (px_ct g) k41 k63 n a0 a1 a2 a3 a4 a5 a6 a7 ph = some (r, ph') → PW l g (d + 4) m_Layout_findSlots 109 [.ref a0, .int a1, va_rf a2, .int a3, va_rf a4, .int a5, .int a6, .int a7] [] ph (px_qV r ph') := by
  intro n
  induction n with
  | zero => intro _ _ _ _ _ _ _ _ _ _ _ h; cases h
  | succ n ih =>
    intro a0 a1 a2 a3 a4 a5 a6 a7 ph r ph' h
    unfold f_Layout_findSlots_109 at h
    refine px_ld rfl rfl rfl rfl rfl ?_
    refine px_ld rfl rfl rfl rfl rfl ?_
    refine px_icge rfl (by decide) rfl (fun hc => ?_) (fun hc => ?_)
    · replace h := (if_pos hc).symm.trans h
      refine px_forget (n := 4) (lv' := [_, _, _, _, _, _, _, _]) rfl ?_
      refine px_forget (n := 5) (lv' := [_, _, _, _, _, _, _, _]) rfl ?_
      refine px_forget (n := 6) (lv' := [_, _, _, _, _, _, _, _]) rfl ?_
      refine px_forget (n := 7) (lv' := [_, _, _, _, _, _, _, _]) rfl ?_
      exact (r_Layout_findSlots_137 @hk41 @hk63 h :)
    · replace h := (if_neg hc).symm.trans h
      refine px_ld rfl rfl rfl rfl rfl ?_
      refine px_ld rfl rfl rfl rfl rfl ?_
      refine px_ld rfl rfl rfl rfl rfl ?_
      refine px_ic (k := 24) rfl rfl rfl ?_
      refine px_ld rfl rfl rfl rfl rfl ?_
      refine px_alu rfl rfl rfl ?_
      refine px_alu rfl rfl rfl ?_
      refine px_ld rfl rfl rfl (by first | rfl | (cases a4 <;> rfl)) rfl ?_
      obtain ⟨fs, h0, h⟩ := xs_some h
      have e1 := xo_some h0
      obtain ⟨u0, ph1, h0, h⟩ := xb_some h
      refine px_cV3 (lv0 := [.ref a0, .int a1, .int (a6 + ((nI 24) * a7)), va_rf a4, px_u, px_u, px_u, px_u, px_u, px_u, px_u]) rfl rfl e1 rfl rfl rfl (by first | rfl | (cases a4 <;> rfl)) rfl (by first | rfl | (cases a4 <;> rfl)) rfl (r_Layout_findSlot h0 :) (fun _ _ q => nomatch q.2) (fun r ph' q => ?_)
      obtain ⟨rfl, q⟩ := q
      cases q
      refine px_iinc (lv' := [_, _, _, _, _, _, _, _]) rfl rfl rfl rfl rfl rfl ?_
      refine px_goto rfl (by decide) rfl ?_
      exact (ih h :)
def f_Layout_findSlots_96 (F : Nat) (c : px_CT) (k41 : Nat → Int32 → px_H → Option (Unit × px_H)) (k63 : Nat → Int32 → Option Nat → Int32 → px_H → Option (Unit × px_H)) (a0 : Nat) (a1 : Int32) (a2 : Option Nat) (a3 : Int32) (a4 : Option Nat) (s0 : Int32) (ph : px_H) : Option (Unit × px_H) :=
  (a2).bind fun p1 =>
  (xo ph 7 p1).bind fun _ =>
  xb (f_ObjectFile_placeOf F c p1 a3 ph) fun t2 ph3 =>
  f_Layout_findSlots_109 F c k41 k63 F a0 a1 (some p1) a3 a4 s0 t2.toInt32 (nI 0) ph3
theorem r_Layout_findSlots_96 {l : Launch} {g : px_G} {d F : Nat} {k41 : Nat → Int32 → px_H → Option (Unit × px_H)} (hk41 : ∀ {a0 : Nat} {a1 : Int32} {ph : px_H} {r : Unit} {ph' : px_H}, k41 a0 a1 ph = some (r, ph') → PW l g (d + 4) m_Layout_findSlots 41 [.ref a0, .int a1, px_u, px_u, px_u, px_u, px_u, px_u] [] ph (px_qV r ph')) {k63 : Nat → Int32 → Option Nat → Int32 → px_H → Option (Unit × px_H)} (hk63 : ∀ {a0 : Nat} {a1 : Int32} {a2 : Option Nat} {a3 : Int32} {ph : px_H} {r : Unit} {ph' : px_H}, k63 a0 a1 a2 a3 ph = some (r, ph') → PW l g (d + 4) m_Layout_findSlots 63 [.ref a0, .int a1, va_rf a2, .int a3, px_u, px_u, px_u, px_u] [] ph (px_qV r ph')) {a0 : Nat} {a1 : Int32} {a2 : Option Nat} {a3 : Int32} {a4 : Option Nat} {s0 : Int32} {ph : px_H} {r : Unit} {ph' : px_H} (h : f_Layout_findSlots_96 F (px_ct g) k41 k63 a0 a1 a2 a3 a4 s0 ph = some (r, ph')) : PW l g (d + 4) m_Layout_findSlots 96 [.ref a0, .int a1, va_rf a2, .int a3, va_rf a4, px_u, px_u, px_u] [.int s0] ph (px_qV r ph') := by
  unfold f_Layout_findSlots_96 at h
  refine px_st (lv' := [.ref a0, .int a1, va_rf a2, .int a3, va_rf a4, .int s0, px_u, px_u]) rfl rfl rfl rfl (by first | rfl | (cases a4 <;> rfl)) rfl rfl ?_
  refine px_ld rfl rfl rfl (by first | rfl | (cases a2 <;> rfl)) rfl ?_
  refine px_ld rfl rfl rfl rfl rfl ?_
  obtain ⟨p1, h0, h⟩ := xs_some h
  revert h
  subst h0
  intro h
  obtain ⟨fs, h0, h⟩ := xs_some h
  have e1 := xo_some h0
  obtain ⟨t2, ph3, h0, h⟩ := xb_some h
  refine px_cV1 rfl rfl e1 rfl rfl rfl rfl rfl rfl rfl (r_ObjectFile_placeOf h0 :) (fun _ _ q => nomatch q.2) (fun r ph' q => ?_)
  obtain ⟨rfl, q⟩ := q
  cases q
  refine px_alu rfl rfl rfl ?_
  refine px_st (lv' := [_, _, _, _, _, _, _, _]) rfl rfl rfl rfl rfl rfl rfl ?_
  refine px_ic (k := 0) rfl rfl rfl ?_
  refine px_st (lv' := [_, _, _, _, _, _, _, _]) rfl rfl rfl rfl rfl rfl rfl ?_
  exact (r_Layout_findSlots_109 @hk41 @hk63 _ h :)
def f_Layout_findSlots_63 (F : Nat) (c : px_CT) (k41 : Nat → Int32 → px_H → Option (Unit × px_H)) : Nat → Nat → Int32 → Option Nat → Int32 → px_H → Option (Unit × px_H)
  | 0, _, _, _, _, _ => none
  | n + 1, a0, a1, a2, a3, ph =>
    (a2).bind fun p1 =>
    (xgI ph 7 8 p1).bind fun t2 =>
    if t2 ≤ a3 then
      f_Layout_findSlots_143 F c k41 a0 a1 ph
    else
      (xgR ph 2 0 a0).bind fun t3 =>
      (xo ph 3 t3).bind fun _ =>
      xb (f_Link_stayingTarget F c t3 a1 a3 ph) fun t4 ph5 =>
      (match t4 with
        | none => f_Layout_findSlots_96 F c k41 (f_Layout_findSlots_63 F c k41 n) a0 a1 (some p1) a3 none (nI 0) ph5
        | some p6 => (xo ph5 7 p1).bind fun _ =>
        xb (f_ObjectFile_sitesOf F c p1 a3 ph5) fun t7 ph8 =>
        f_Layout_findSlots_96 F c k41 (f_Layout_findSlots_63 F c k41 n) a0 a1 (some p1) a3 (some p6) t7 ph8)
theorem r_Layout_findSlots_63 {l : Launch} {g : px_G} {d F : Nat} {k41 : Nat → Int32 → px_H → Option (Unit × px_H)} (hk41 : ∀ {a0 : Nat} {a1 : Int32} {ph : px_H} {r : Unit} {ph' : px_H}, k41 a0 a1 ph = some (r, ph') → PW l g (d + 4) m_Layout_findSlots 41 [.ref a0, .int a1, px_u, px_u, px_u, px_u, px_u, px_u] [] ph (px_qV r ph')) : ∀ (n : Nat) {a0 : Nat} {a1 : Int32} {a2 : Option Nat} {a3 : Int32} {ph : px_H} {r : Unit} {ph' : px_H}, f_Layout_findSlots_63 F (px_ct g) k41 n a0 a1 a2 a3 ph = some (r, ph') → PW l g (d + 4) m_Layout_findSlots 63 [.ref a0, .int a1, va_rf a2, .int a3, px_u, px_u, px_u, px_u] [] ph (px_qV r ph') := by
  intro n
  induction n with
  | zero => intro _ _ _ _ _ _ _ h; cases h
  | succ n ih =>
    intro a0 a1 a2 a3 ph r ph' h
    unfold f_Layout_findSlots_63 at h
    refine px_ld rfl rfl rfl rfl rfl ?_
    refine px_ld rfl rfl rfl (by first | rfl | (cases a2 <;> rfl)) rfl ?_
    obtain ⟨p1, h0, h⟩ := xs_some h
    revert h
    subst h0
    intro h
    obtain ⟨t2, h0, h⟩ := xs_some h
    obtain ⟨fs, e1, e2⟩ := xgI_some h0
    refine px_get rfl e1 e2 rfl ?_
    refine px_icge rfl (by decide) rfl (fun hc => ?_) (fun hc => ?_)
    · replace h := (if_pos hc).symm.trans h
      refine px_forget (n := 2) (lv' := [_, _, _, _, _, _, _, _]) rfl ?_
      refine px_forget (n := 3) (lv' := [_, _, _, _, _, _, _, _]) rfl ?_
      exact (r_Layout_findSlots_143 @hk41 h :)
    · replace h := (if_neg hc).symm.trans h
      refine px_ld rfl rfl rfl rfl rfl ?_
      obtain ⟨t3, h0, h⟩ := xs_some h
      obtain ⟨fs, e1, e2⟩ := xgR_some h0
      refine px_get rfl e1 e2 rfl ?_
      refine px_ld rfl rfl rfl rfl rfl ?_
      refine px_ld rfl rfl rfl rfl rfl ?_
      obtain ⟨fs, h0, h⟩ := xs_some h
      have e1 := xo_some h0
      obtain ⟨t4, ph5, h0, h⟩ := xb_some h
      refine px_cV2 rfl rfl e1 rfl rfl rfl rfl rfl rfl rfl (r_Link_stayingTarget h0 :) (fun _ _ q => nomatch q.2) (fun r ph' q => ?_)
      obtain ⟨rfl, q⟩ := q
      cases q
      refine px_st (lv' := [.ref a0, .int a1, .ref p1, .int a3, va_rf t4, px_u, px_u, px_u]) rfl rfl (by first | rfl | (cases t4 <;> rfl)) (by first | rfl | (cases t4 <;> rfl)) rfl (by first | rfl | (cases t4 <;> rfl)) rfl ?_
      refine px_ld rfl rfl rfl (by first | rfl | (cases t4 <;> rfl)) rfl ?_
      cases t4 with
      | none =>
        refine px_ifnnN rfl rfl ?_
        refine px_ic (k := 0) rfl rfl rfl ?_
        refine px_goto rfl (by decide) rfl ?_
        exact (r_Layout_findSlots_96 @hk41 @ih h :)
      | some p6 =>
        refine px_ifnnR rfl (by decide) rfl ?_
        refine px_ld rfl rfl rfl rfl rfl ?_
        refine px_ld rfl rfl rfl rfl rfl ?_
        obtain ⟨fs, h0, h⟩ := xs_some h
        have e1 := xo_some h0
        obtain ⟨t7, ph8, h0, h⟩ := xb_some h
        refine px_cV1 rfl rfl e1 rfl rfl rfl rfl rfl rfl rfl (r_ObjectFile_sitesOf h0 :) (fun _ _ q => nomatch q.2) (fun r ph' q => ?_)
        obtain ⟨rfl, q⟩ := q
        cases q
        exact (r_Layout_findSlots_96 @hk41 @ih h :)
def f_Layout_findSlots_41 (F : Nat) (c : px_CT) : Nat → Nat → Int32 → px_H → Option (Unit × px_H)
  | 0, _, _, _ => none
  | n + 1, a0, a1, ph =>
    (xgR ph 2 0 a0).bind fun t1 =>
    (xgI ph 3 14 t1).bind fun t2 =>
    if t2 ≤ a1 then
      f_Layout_findSlots_149 F c ph
    else
      (xgR ph 2 0 a0).bind fun t3 =>
      (xo ph 3 t3).bind fun _ =>
      xb (f_Link_object F c t3 a1 ph) fun t4 ph5 =>
      f_Layout_findSlots_63 F c (f_Layout_findSlots_41 F c n) F a0 a1 t4 (nI 0) ph5
theorem r_Layout_findSlots_41 {l : Launch} {g : px_G} {d F : Nat} : ∀ (n : Nat) {a0 : Nat} {a1 : Int32} {ph : px_H} {r : Unit} {ph' : px_H}, f_Layout_findSlots_41 F (px_ct g) n a0 a1 ph = some (r, ph') → PW l g (d + 4) m_Layout_findSlots 41 [.ref a0, .int a1, px_u, px_u, px_u, px_u, px_u, px_u] [] ph (px_qV r ph') := by
  intro n
  induction n with
  | zero => intro _ _ _ _ _ h; cases h
  | succ n ih =>
    intro a0 a1 ph r ph' h
    unfold f_Layout_findSlots_41 at h
    refine px_ld rfl rfl rfl rfl rfl ?_
    refine px_ld rfl rfl rfl rfl rfl ?_
    obtain ⟨t1, h0, h⟩ := xs_some h
    obtain ⟨fs, e1, e2⟩ := xgR_some h0
    refine px_get rfl e1 e2 rfl ?_
    obtain ⟨t2, h0, h⟩ := xs_some h
    obtain ⟨fs, e1, e2⟩ := xgI_some h0
    refine px_get rfl e1 e2 rfl ?_
    refine px_icge rfl (by decide) rfl (fun hc => ?_) (fun hc => ?_)
    · replace h := (if_pos hc).symm.trans h
      refine px_forget (n := 0) (lv' := [_, _, _, _, _, _, _, _]) rfl ?_
      refine px_forget (n := 1) (lv' := [_, _, _, _, _, _, _, _]) rfl ?_
      exact (r_Layout_findSlots_149 h :)
    · replace h := (if_neg hc).symm.trans h
      refine px_ld rfl rfl rfl rfl rfl ?_
      obtain ⟨t3, h0, h⟩ := xs_some h
      obtain ⟨fs, e1, e2⟩ := xgR_some h0
      refine px_get rfl e1 e2 rfl ?_
      refine px_ld rfl rfl rfl rfl rfl ?_
      obtain ⟨fs, h0, h⟩ := xs_some h
      have e1 := xo_some h0
      obtain ⟨t4, ph5, h0, h⟩ := xb_some h
      refine px_cV1 rfl rfl e1 rfl rfl rfl rfl rfl rfl rfl (r_Link_object h0 :) (fun _ _ q => nomatch q.2) (fun r ph' q => ?_)
      obtain ⟨rfl, q⟩ := q
      cases q
      refine px_st (lv' := [.ref a0, .int a1, va_rf t4, px_u, px_u, px_u, px_u, px_u]) rfl rfl (by first | rfl | (cases t4 <;> rfl)) (by first | rfl | (cases t4 <;> rfl)) rfl (by first | rfl | (cases t4 <;> rfl)) rfl ?_
      refine px_ic (k := 0) rfl rfl rfl ?_
      refine px_st (lv' := [.ref a0, .int a1, va_rf t4, .int (nI 0), px_u, px_u, px_u, px_u]) rfl rfl rfl rfl (by first | rfl | (cases t4 <;> rfl)) rfl rfl ?_
      exact (r_Layout_findSlots_63 @ih _ h :)
def f_Layout_findSlots (F : Nat) (c : px_CT) (a0 : Nat) (ph : px_H) : Option (Unit × px_H) :=
  (xpI ph 2 12 a0 (nI 0)).bind fun ph1 =>
  (xpJ ph1 2 13 a0 (lN 0)).bind fun ph2 =>
  (xgR ph2 2 10 a0).bind fun t3 =>
  (xgR ph2 2 0 a0).bind fun t4 =>
  (xgI ph2 3 14 t4).bind fun t5 =>
  (xgR ph2 2 10 a0).bind fun t6 =>
  (xal ph2 1 t6).bind fun t7 =>
  xb (f_Arrays_fill F c t3 (nI 0) (if t7 < (((nI 2) * t5) * (nI 64)) then t7 else (((nI 2) * t5) * (nI 64))) (nI 0) ph2) fun _ ph8 =>
  f_Layout_findSlots_41 F c F a0 (nI 0) ph8
theorem r_Layout_findSlots {l : Launch} {g : px_G} {d F : Nat} {a0 : Nat} {ph : px_H} {r : Unit} {ph' : px_H} (h : f_Layout_findSlots F (px_ct g) a0 ph = some (r, ph')) : PW l g (d + 4) m_Layout_findSlots 0 [.ref a0, px_u, px_u, px_u, px_u, px_u, px_u, px_u] [] ph (px_qV r ph') := by
  unfold f_Layout_findSlots at h
  refine px_ld rfl rfl rfl rfl rfl ?_
  refine px_ic (k := 0) rfl rfl rfl ?_
  obtain ⟨ph1, h0, h⟩ := xs_some h
  obtain ⟨fs, e1, e2, e3⟩ := xpI_some h0
  subst e3
  refine px_put rfl e1 e2 trivial rfl ?_
  refine px_ld rfl rfl rfl rfl rfl ?_
  refine px_alu rfl rfl rfl ?_
  obtain ⟨ph2, h0, h⟩ := xs_some h
  obtain ⟨fs, e1, e2, e3⟩ := xpJ_some h0
  subst e3
  refine px_put rfl e1 e2 trivial rfl ?_
  refine px_ld rfl rfl rfl rfl rfl ?_
  obtain ⟨t3, h0, h⟩ := xs_some h
  obtain ⟨fs, e1, e2⟩ := xgR_some h0
  refine px_get rfl e1 e2 rfl ?_
  refine px_ic (k := 0) rfl rfl rfl ?_
  refine px_ic (k := 2) rfl rfl rfl ?_
  refine px_ld rfl rfl rfl rfl rfl ?_
  obtain ⟨t4, h0, h⟩ := xs_some h
  obtain ⟨fs, e1, e2⟩ := xgR_some h0
  refine px_get rfl e1 e2 rfl ?_
  obtain ⟨t5, h0, h⟩ := xs_some h
  obtain ⟨fs, e1, e2⟩ := xgI_some h0
  refine px_get rfl e1 e2 rfl ?_
  refine px_alu rfl rfl rfl ?_
  refine px_ic (k := 64) rfl rfl rfl ?_
  refine px_alu rfl rfl rfl ?_
  refine px_ld rfl rfl rfl rfl rfl ?_
  obtain ⟨t6, h0, h⟩ := xs_some h
  obtain ⟨fs, e1, e2⟩ := xgR_some h0
  refine px_get rfl e1 e2 rfl ?_
  obtain ⟨t7, h0, h⟩ := xs_some h
  obtain ⟨x, e1, e3⟩ := xal_some h0
  subst e3
  refine px_alen rfl e1 rfl rfl ?_
  refine px_min rfl rfl rfl ?_
  refine px_ic (k := 0) rfl rfl rfl ?_
  obtain ⟨u0, ph8, h0, h⟩ := xb_some h
  refine px_cS4 rfl rfl rfl rfl rfl rfl rfl (r_Arrays_fill h0 :) (fun _ _ q => nomatch q.2) (fun r ph' q => ?_)
  obtain ⟨rfl, q⟩ := q
  cases q
  refine px_ic (k := 0) rfl rfl rfl ?_
  refine px_st (lv' := [_, _, _, _, _, _, _, _]) rfl rfl rfl rfl rfl rfl rfl ?_
  exact (r_Layout_findSlots_41 _ h :)
def f_Arrays_fill_2_22 (F : Nat) (c : px_CT) (ph : px_H) : Option (Unit × px_H) :=
  some ((), ph)
theorem r_Arrays_fill_2_22 {l : Launch} {g : px_G} {d F : Nat} {ph : px_H} {r : Unit} {ph' : px_H} (h : f_Arrays_fill_2_22 F (px_ct g) ph = some (r, ph')) : PW l g (d + 0) m_Arrays_fill_2 22 [px_u, px_u, px_u, px_u, px_u] [] ph (px_qV r ph') := by
  unfold f_Arrays_fill_2_22 at h
  cases h
  exact px_vret rfl rfl rfl ⟨rfl, rfl⟩
def f_Arrays_fill_2_6 (F : Nat) (c : px_CT) : Nat → Nat → Int64 → Int32 → Int32 → px_H → Option (Unit × px_H)
  | 0, _, _, _, _, _ => none
  | n + 1, a0, a1, a3, a4, ph =>
    if a4 ≤ a3 then
      f_Arrays_fill_2_22 F c ph
    else
      (xsJ ph 2 a0 a3 a1).bind fun ph1 =>
      f_Arrays_fill_2_6 F c n a0 a1 (a3 + nI 1) a4 ph1
theorem r_Arrays_fill_2_6 {l : Launch} {g : px_G} {d F : Nat} : ∀ (n : Nat) {a0 : Nat} {a1 : Int64} {a3 : Int32} {a4 : Int32} {ph : px_H} {r : Unit} {ph' : px_H}, f_Arrays_fill_2_6 F (px_ct g) n a0 a1 a3 a4 ph = some (r, ph') → PW l g (d + 0) m_Arrays_fill_2 6 [.ref a0, .long a1, px_u, .int a3, .int a4] [] ph (px_qV r ph') := by
  intro n
  induction n with
  | zero => intro _ _ _ _ _ _ _ h; cases h
  | succ n ih =>
    intro a0 a1 a3 a4 ph r ph' h
    unfold f_Arrays_fill_2_6 at h
    refine px_ld rfl rfl rfl rfl rfl ?_
    refine px_ld rfl rfl rfl rfl rfl ?_
    refine px_icge rfl rfl rfl (fun hc => ?_) (fun hc => ?_)
    · replace h := (if_pos hc).symm.trans h
      refine px_forget (n := 0) (lv' := [_, _, _, _, _]) rfl ?_
      refine px_forget (n := 1) (lv' := [_, _, _, _, _]) rfl ?_
      refine px_forget (n := 3) (lv' := [_, _, _, _, _]) rfl ?_
      refine px_forget (n := 4) (lv' := [_, _, _, _, _]) rfl ?_
      exact (r_Arrays_fill_2_22 h :)
    · replace h := (if_neg hc).symm.trans h
      refine px_ld rfl rfl rfl rfl rfl ?_
      refine px_ld rfl rfl rfl rfl rfl ?_
      refine px_ld rfl rfl rfl rfl rfl ?_
      obtain ⟨ph1, h0, h⟩ := xs_some h
      obtain ⟨N, f, e1, e2, e3⟩ := xsJ_some h0
      subst e3
      refine px_last rfl e1 rfl e2 rfl ?_
      refine px_iinc (lv' := [_, _, _, _, _]) rfl rfl rfl rfl rfl rfl ?_
      refine px_goto rfl rfl rfl ?_
      exact (ih h :)
def f_Arrays_fill_2 (F : Nat) (c : px_CT) (a0 : Nat) (a1 : Int64) (ph : px_H) : Option (Unit × px_H) :=
  (xal ph 2 a0).bind fun t1 =>
  f_Arrays_fill_2_6 F c F a0 a1 (nI 0) t1 ph
theorem r_Arrays_fill_2 {l : Launch} {g : px_G} {d F : Nat} {a0 : Nat} {a1 : Int64} {ph : px_H} {r : Unit} {ph' : px_H} (h : f_Arrays_fill_2 F (px_ct g) a0 a1 ph = some (r, ph')) : PW l g (d + 0) m_Arrays_fill_2 0 [.ref a0, .long a1, px_u, px_u, px_u] [] ph (px_qV r ph') := by
  unfold f_Arrays_fill_2 at h
  refine px_ic (k := 0) rfl rfl rfl ?_
  refine px_st (lv' := [_, _, _, _, _]) rfl rfl rfl rfl rfl rfl rfl ?_
  refine px_ld rfl rfl rfl rfl rfl ?_
  obtain ⟨t1, h0, h⟩ := xs_some h
  obtain ⟨x, e1, e3⟩ := xal_some h0
  subst e3
  refine px_alen rfl e1 rfl rfl ?_
  refine px_st (lv' := [_, _, _, _, _]) rfl rfl rfl rfl rfl rfl rfl ?_
  exact (r_Arrays_fill_2_6 _ h :)
def f_Layout_partAt_44 (F : Nat) (c : px_CT) (s0 : Option Nat) (ph : px_H) : Option (Option Nat × px_H) :=
  some (s0, ph)
theorem r_Layout_partAt_44 {l : Launch} {g : px_G} {d F : Nat} {s0 : Option Nat} {ph : px_H} {r : Option Nat} {ph' : px_H} (h : f_Layout_partAt_44 F (px_ct g) s0 ph = some (r, ph')) : PW l g (d + 0) m_Layout_partAt 44 [px_u, px_u, px_u] [va_rf s0] ph (px_qN r ph') := by
  unfold f_Layout_partAt_44 at h
  cases h
  exact px_aret rfl rfl (Or.inl ⟨_, rfl⟩) (by first | rfl | (cases s0 <;> rfl) | (cases r <;> rfl) | (cases s0 <;> cases r <;> rfl)) rfl ⟨rfl, rfl⟩
def f_Layout_partAt_31 (F : Nat) (c : px_CT) (a0 : Nat) (s0 : Option Nat) (ph : px_H) : Option (Option Nat × px_H) :=
  (match s0 with
    | none => (xgR ph 2 3 a0).bind fun t2 =>
    f_Layout_partAt_44 F c (some t2) ph
    | some p1 => f_Layout_partAt_44 F c (some p1) ph)
theorem r_Layout_partAt_31 {l : Launch} {g : px_G} {d F : Nat} {a0 : Nat} {s0 : Option Nat} {ph : px_H} {r : Option Nat} {ph' : px_H} (h : f_Layout_partAt_31 F (px_ct g) a0 s0 ph = some (r, ph')) : PW l g (d + 0) m_Layout_partAt 31 [.ref a0, px_u, px_u] [va_rf s0] ph (px_qN r ph') := by
  unfold f_Layout_partAt_31 at h
  refine px_st (lv' := [.ref a0, px_u, va_rf s0]) rfl rfl (by first | rfl | (cases s0 <;> rfl)) (by first | rfl | (cases s0 <;> rfl)) rfl (by first | rfl | (cases s0 <;> rfl)) rfl ?_
  refine px_ld rfl rfl rfl (by first | rfl | (cases s0 <;> rfl)) rfl ?_
  cases s0 with
  | none =>
    refine px_ifnnN rfl rfl ?_
    refine px_ld rfl rfl rfl rfl rfl ?_
    obtain ⟨t2, h0, h⟩ := xs_some h
    obtain ⟨fs, e1, e2⟩ := xgR_some h0
    refine px_get rfl e1 e2 rfl ?_
    refine px_goto rfl rfl rfl ?_
    refine px_forget (n := 0) (lv' := [_, _, _]) rfl ?_
    refine px_forget (n := 2) (lv' := [_, _, _]) rfl ?_
    exact (r_Layout_partAt_44 h :)
  | some p1 =>
    refine px_ifnnR rfl rfl rfl ?_
    refine px_ld rfl rfl rfl rfl rfl ?_
    refine px_forget (n := 0) (lv' := [_, _, _]) rfl ?_
    refine px_forget (n := 2) (lv' := [_, _, _]) rfl ?_
    exact (r_Layout_partAt_44 h :)
def f_Layout_partAt_30 (F : Nat) (c : px_CT) (a0 : Nat) (ph : px_H) : Option (Option Nat × px_H) :=
  f_Layout_partAt_31 F c a0 none ph
theorem r_Layout_partAt_30 {l : Launch} {g : px_G} {d F : Nat} {a0 : Nat} {ph : px_H} {r : Option Nat} {ph' : px_H} (h : f_Layout_partAt_30 F (px_ct g) a0 ph = some (r, ph')) : PW l g (d + 0) m_Layout_partAt 30 [.ref a0, px_u, px_u] [] ph (px_qN r ph') := by
  unfold f_Layout_partAt_30 at h
  refine px_alu rfl rfl rfl ?_
  exact (r_Layout_partAt_31 h :)
def f_Layout_partAt (F : Nat) (c : px_CT) (a0 : Nat) (a1 : Int32) (ph : px_H) : Option (Option Nat × px_H) :=
  if a1 < 0 then
    f_Layout_partAt_30 F c a0 ph
  else
    (xgI ph 2 11 a0).bind fun t1 =>
    if t1 ≤ a1 then
      f_Layout_partAt_30 F c a0 ph
    else
      (xgR ph 2 2 a0).bind fun t2 =>
      (xal ph 6 t2).bind fun t3 =>
      if t3 ≤ a1 then
        f_Layout_partAt_30 F c a0 ph
      else
        (xgR ph 2 2 a0).bind fun t4 =>
        (xaN ph 6 t4 a1).bind fun t5 =>
        f_Layout_partAt_31 F c a0 t5 ph
theorem r_Layout_partAt {l : Launch} {g : px_G} {d F : Nat} {a0 : Nat} {a1 : Int32} {ph : px_H} {r : Option Nat} {ph' : px_H} (h : f_Layout_partAt F (px_ct g) a0 a1 ph = some (r, ph')) : PW l g (d + 0) m_Layout_partAt 0 [.ref a0, .int a1, px_u] [] ph (px_qN r ph') := by
  unfold f_Layout_partAt at h
  refine px_ld rfl rfl rfl rfl rfl ?_
  refine px_iflt rfl rfl rfl (fun hc => ?_) (fun hc => ?_)
  · replace h := (if_pos hc).symm.trans h
    refine px_forget (n := 1) (lv' := [_, _, _]) rfl ?_
    exact (r_Layout_partAt_30 h :)
  · replace h := (if_neg hc).symm.trans h
    refine px_ld rfl rfl rfl rfl rfl ?_
    refine px_ld rfl rfl rfl rfl rfl ?_
    obtain ⟨t1, h0, h⟩ := xs_some h
    obtain ⟨fs, e1, e2⟩ := xgI_some h0
    refine px_get rfl e1 e2 rfl ?_
    refine px_icge rfl rfl rfl (fun hc => ?_) (fun hc => ?_)
    · replace h := (if_pos hc).symm.trans h
      refine px_forget (n := 1) (lv' := [_, _, _]) rfl ?_
      exact (r_Layout_partAt_30 h :)
    · replace h := (if_neg hc).symm.trans h
      refine px_ld rfl rfl rfl rfl rfl ?_
      refine px_ld rfl rfl rfl rfl rfl ?_
      obtain ⟨t2, h0, h⟩ := xs_some h
      obtain ⟨fs, e1, e2⟩ := xgR_some h0
      refine px_get rfl e1 e2 rfl ?_
      obtain ⟨t3, h0, h⟩ := xs_some h
      obtain ⟨x, e1, e3⟩ := xal_some h0
      subst e3
      refine px_alen rfl e1 rfl rfl ?_
      refine px_icge rfl rfl rfl (fun hc => ?_) (fun hc => ?_)
      · replace h := (if_pos hc).symm.trans h
        refine px_forget (n := 1) (lv' := [_, _, _]) rfl ?_
        exact (r_Layout_partAt_30 h :)
      · replace h := (if_neg hc).symm.trans h
        refine px_ld rfl rfl rfl rfl rfl ?_
        obtain ⟨t4, h0, h⟩ := xs_some h
        obtain ⟨fs, e1, e2⟩ := xgR_some h0
        refine px_get rfl e1 e2 rfl ?_
        refine px_ld rfl rfl rfl rfl rfl ?_
        obtain ⟨t5, h0, h⟩ := xs_some h
        obtain ⟨N, f, e1, e2, e3⟩ := xaN_some h0
        refine px_aaldO rfl e1 rfl e2 e3 rfl ?_
        refine px_goto rfl rfl rfl ?_
        refine px_forget (n := 1) (lv' := [_, _, _]) rfl ?_
        exact (r_Layout_partAt_31 h :)
def f_Layout_segmentOf_30 (F : Nat) (c : px_CT) (s0 : Int32) (ph : px_H) : Option (Int32 × px_H) :=
  some (s0, ph)
theorem r_Layout_segmentOf_30 {l : Launch} {g : px_G} {d F : Nat} {s0 : Int32} {ph : px_H} {r : Int32} {ph' : px_H} (h : f_Layout_segmentOf_30 F (px_ct g) s0 ph = some (r, ph')) : PW l g (d + 0) m_Layout_segmentOf 30 [px_u, px_u] [.int s0] ph (px_qI r ph') := by
  unfold f_Layout_segmentOf_30 at h
  cases h
  exact px_iret rfl (Or.inl rfl) rfl ⟨rfl, rfl⟩
def f_Layout_segmentOf_29 (F : Nat) (c : px_CT) (ph : px_H) : Option (Int32 × px_H) :=
  f_Layout_segmentOf_30 F c (nI 0) ph
theorem r_Layout_segmentOf_29 {l : Launch} {g : px_G} {d F : Nat} {ph : px_H} {r : Int32} {ph' : px_H} (h : f_Layout_segmentOf_29 F (px_ct g) ph = some (r, ph')) : PW l g (d + 0) m_Layout_segmentOf 29 [px_u, px_u] [] ph (px_qI r ph') := by
  unfold f_Layout_segmentOf_29 at h
  refine px_ic (k := 0) rfl rfl rfl ?_
  exact (r_Layout_segmentOf_30 h :)
def f_Layout_segmentOf (F : Nat) (c : px_CT) (a0 : Nat) (a1 : Option Nat) (ph : px_H) : Option (Int32 × px_H) :=
  (a1).bind fun p1 =>
  (xgI ph 8 4 p1).bind fun t2 =>
  if t2 < 0 then
    f_Layout_segmentOf_29 F c ph
  else
    (xgI ph 8 4 p1).bind fun t3 =>
    (xkl c 5).bind fun t4 =>
    if t4 ≤ t3 then
      f_Layout_segmentOf_29 F c ph
    else
      (xgI ph 8 4 p1).bind fun t5 =>
      (xkI c 5 t5).bind fun t6 =>
      f_Layout_segmentOf_30 F c t6 ph
theorem r_Layout_segmentOf {l : Launch} {g : px_G} {d F : Nat} {a0 : Nat} {a1 : Option Nat} {ph : px_H} {r : Int32} {ph' : px_H} (h : f_Layout_segmentOf F (px_ct g) a0 a1 ph = some (r, ph')) : PW l g (d + 0) m_Layout_segmentOf 0 [.ref a0, va_rf a1] [] ph (px_qI r ph') := by
  unfold f_Layout_segmentOf at h
  refine px_ld rfl rfl rfl (by first | rfl | (cases a1 <;> rfl)) rfl ?_
  obtain ⟨p1, h0, h⟩ := xs_some h
  revert h
  subst h0
  intro h
  obtain ⟨t2, h0, h⟩ := xs_some h
  obtain ⟨fs, e1, e2⟩ := xgI_some h0
  refine px_get rfl e1 e2 rfl ?_
  refine px_iflt rfl rfl rfl (fun hc => ?_) (fun hc => ?_)
  · replace h := (if_pos hc).symm.trans h
    refine px_forget (n := 0) (lv' := [_, _]) rfl ?_
    refine px_forget (n := 1) (lv' := [_, _]) rfl ?_
    exact (r_Layout_segmentOf_29 h :)
  · replace h := (if_neg hc).symm.trans h
    refine px_ld rfl rfl rfl rfl rfl ?_
    obtain ⟨t3, h0, h⟩ := xs_some h
    obtain ⟨fs, e1, e2⟩ := xgI_some h0
    refine px_get rfl e1 e2 rfl ?_
    refine px_gets rfl rfl ?_
    obtain ⟨t4, h0, h⟩ := xs_some h
    obtain ⟨e0, e3⟩ := xkl_some h0
    subst e3
    refine px_clen rfl e0 rfl ?_
    refine px_icge rfl rfl rfl (fun hc => ?_) (fun hc => ?_)
    · replace h := (if_pos hc).symm.trans h
      refine px_forget (n := 0) (lv' := [_, _]) rfl ?_
      refine px_forget (n := 1) (lv' := [_, _]) rfl ?_
      exact (r_Layout_segmentOf_29 h :)
    · replace h := (if_neg hc).symm.trans h
      refine px_gets rfl rfl ?_
      refine px_ld rfl rfl rfl rfl rfl ?_
      obtain ⟨t5, h0, h⟩ := xs_some h
      obtain ⟨fs, e1, e2⟩ := xgI_some h0
      refine px_get rfl e1 e2 rfl ?_
      obtain ⟨t6, h0, h⟩ := xs_some h
      obtain ⟨e0, e1, e2, e3⟩ := xkI_some h0
      subst e3
      refine px_cild rfl e0 e1 e2 rfl ?_
      refine px_goto rfl rfl rfl ?_
      refine px_forget (n := 0) (lv' := [_, _]) rfl ?_
      refine px_forget (n := 1) (lv' := [_, _]) rfl ?_
      exact (r_Layout_segmentOf_30 h :)
def f_Layout_isLaidCommon_20 (F : Nat) (c : px_CT) (s0 : Int32) (ph : px_H) : Option (Int32 × px_H) :=
  xz s0 ph
theorem r_Layout_isLaidCommon_20 {l : Launch} {g : px_G} {d F : Nat} {s0 : Int32} {ph : px_H} {r : Int32} {ph' : px_H} (h : f_Layout_isLaidCommon_20 F (px_ct g) s0 ph = some (r, ph')) : PW l g (d + 0) m_Layout_isLaidCommon 20 [px_u] [.int s0] ph (px_qI r ph') := by
  unfold f_Layout_isLaidCommon_20 at h
  obtain ⟨e0, e1, e2⟩ := xz_some h
  subst e1 e2
  exact px_iret rfl (Or.inr ⟨rfl, e0⟩) rfl ⟨rfl, rfl⟩
def f_Layout_isLaidCommon_19 (F : Nat) (c : px_CT) (ph : px_H) : Option (Int32 × px_H) :=
  f_Layout_isLaidCommon_20 F c (nI 0) ph
theorem r_Layout_isLaidCommon_19 {l : Launch} {g : px_G} {d F : Nat} {ph : px_H} {r : Int32} {ph' : px_H} (h : f_Layout_isLaidCommon_19 F (px_ct g) ph = some (r, ph')) : PW l g (d + 0) m_Layout_isLaidCommon 19 [px_u] [] ph (px_qI r ph') := by
  unfold f_Layout_isLaidCommon_19 at h
  refine px_ic (k := 0) rfl rfl rfl ?_
  exact (r_Layout_isLaidCommon_20 h :)
def f_Layout_isLaidCommon (F : Nat) (c : px_CT) (a0 : Option Nat) (ph : px_H) : Option (Int32 × px_H) :=
  (a0).bind fun p1 =>
  (xgI ph 5 5 p1).bind fun t2 =>
  if t2 = (nI 3) then
    (xgI ph 5 13 p1).bind fun t3 =>
    if t3 = 0 then
      f_Layout_isLaidCommon_19 F c ph
    else
      f_Layout_isLaidCommon_20 F c (nI 1) ph
  else
    f_Layout_isLaidCommon_19 F c ph
theorem r_Layout_isLaidCommon {l : Launch} {g : px_G} {d F : Nat} {a0 : Option Nat} {ph : px_H} {r : Int32} {ph' : px_H} (h : f_Layout_isLaidCommon F (px_ct g) a0 ph = some (r, ph')) : PW l g (d + 0) m_Layout_isLaidCommon 0 [va_rf a0] [] ph (px_qI r ph') := by
  unfold f_Layout_isLaidCommon at h
  refine px_ld rfl rfl rfl (by first | rfl | (cases a0 <;> rfl)) rfl ?_
  obtain ⟨p1, h0, h⟩ := xs_some h
  revert h
  subst h0
  intro h
  obtain ⟨t2, h0, h⟩ := xs_some h
  obtain ⟨fs, e1, e2⟩ := xgI_some h0
  refine px_get rfl e1 e2 rfl ?_
  refine px_ic (k := 3) rfl rfl rfl ?_
  refine px_icne rfl rfl rfl (fun hc => ?_) (fun hc => ?_)
  · replace h := (if_neg hc).symm.trans h
    refine px_forget (n := 0) (lv' := [_]) rfl ?_
    exact (r_Layout_isLaidCommon_19 h :)
  · replace h := (if_pos hc).symm.trans h
    refine px_ld rfl rfl rfl rfl rfl ?_
    obtain ⟨t3, h0, h⟩ := xs_some h
    obtain ⟨fs, e1, e2⟩ := xgI_some h0
    refine px_get rfl e1 e2 rfl ?_
    refine px_ifeq rfl rfl rfl (fun hc => ?_) (fun hc => ?_)
    · replace h := (if_pos hc).symm.trans h
      refine px_forget (n := 0) (lv' := [_]) rfl ?_
      exact (r_Layout_isLaidCommon_19 h :)
    · replace h := (if_neg hc).symm.trans h
      refine px_ic (k := 1) rfl rfl rfl ?_
      refine px_goto rfl rfl rfl ?_
      refine px_forget (n := 0) (lv' := [_]) rfl ?_
      exact (r_Layout_isLaidCommon_20 h :)
def f_Layout_findSegments_202 (F : Nat) (c : px_CT) (s0 : Nat) (s1 : Int32) (s2 : Int32) (ph : px_H) : Option (Unit × px_H) :=
  (xsI ph 3 s0 s1 (s2 &&& 1)).bind fun ph1 =>
  some ((), ph1)
theorem r_Layout_findSegments_202 {l : Launch} {g : px_G} {d F : Nat} {s0 : Nat} {s1 : Int32} {s2 : Int32} {ph : px_H} {r : Unit} {ph' : px_H} (h : f_Layout_findSegments_202 F (px_ct g) s0 s1 s2 ph = some (r, ph')) : PW l g (d + 1) m_Layout_findSegments 202 [px_u, px_u, px_u] [.int s2, .int s1, .ref s0] ph (px_qV r ph') := by
  unfold f_Layout_findSegments_202 at h
  obtain ⟨ph1, h0, h⟩ := xs_some h
  obtain ⟨N, f, e1, e2, e3⟩ := xsI_some h0
  subst e3
  refine px_zast rfl e1 rfl e2 rfl ?_
  cases h
  exact px_vret rfl rfl rfl ⟨rfl, rfl⟩
def f_Layout_findSegments_197 (F : Nat) (c : px_CT) (s0 : Nat) (s1 : Int32) (ph : px_H) : Option (Unit × px_H) :=
  f_Layout_findSegments_202 F c s0 s1 (nI 1) ph
theorem r_Layout_findSegments_197 {l : Launch} {g : px_G} {d F : Nat} {s0 : Nat} {s1 : Int32} {ph : px_H} {r : Unit} {ph' : px_H} (h : f_Layout_findSegments_197 F (px_ct g) s0 s1 ph = some (r, ph')) : PW l g (d + 1) m_Layout_findSegments 197 [px_u, px_u, px_u] [.int s1, .ref s0] ph (px_qV r ph') := by
  unfold f_Layout_findSegments_197 at h
  refine px_ic (k := 1) rfl rfl rfl ?_
  refine px_goto rfl (by decide) rfl ?_
  exact (r_Layout_findSegments_202 h :)
def f_Layout_findSegments_176 (F : Nat) (c : px_CT) (a0 : Nat) (ph : px_H) : Option (Unit × px_H) :=
  (xgR ph 2 4 a0).bind fun t1 =>
  (xgR ph 2 4 a0).bind fun t2 =>
  (xaI ph 3 t2 (nI 2)).bind fun t3 =>
  if t3 = 0 then
    (xgI ph 2 12 a0).bind fun t4 =>
    if t4 ≤ 0 then
      f_Layout_findSegments_202 F c t1 (nI 2) (nI 0) ph
    else
      f_Layout_findSegments_197 F c t1 (nI 2) ph
  else
    f_Layout_findSegments_197 F c t1 (nI 2) ph
theorem r_Layout_findSegments_176 {l : Launch} {g : px_G} {d F : Nat} {a0 : Nat} {ph : px_H} {r : Unit} {ph' : px_H} (h : f_Layout_findSegments_176 F (px_ct g) a0 ph = some (r, ph')) : PW l g (d + 1) m_Layout_findSegments 176 [.ref a0, px_u, px_u] [] ph (px_qV r ph') := by
  unfold f_Layout_findSegments_176 at h
  refine px_ld rfl rfl rfl rfl rfl ?_
  obtain ⟨t1, h0, h⟩ := xs_some h
  obtain ⟨fs, e1, e2⟩ := xgR_some h0
  refine px_get rfl e1 e2 rfl ?_
  refine px_ic (k := 2) rfl rfl rfl ?_
  refine px_ld rfl rfl rfl rfl rfl ?_
  obtain ⟨t2, h0, h⟩ := xs_some h
  obtain ⟨fs, e1, e2⟩ := xgR_some h0
  refine px_get rfl e1 e2 rfl ?_
  refine px_ic (k := 2) rfl rfl rfl ?_
  obtain ⟨t3, h0, h⟩ := xs_some h
  obtain ⟨N, f, e1, e2, e3⟩ := xaI_some h0
  subst e3
  refine px_zald rfl e1 rfl e2 rfl ?_
  refine px_ifne rfl (by decide) rfl (fun hc => ?_) (fun hc => ?_)
  · replace h := (if_neg hc).symm.trans h
    refine px_forget (n := 0) (lv' := [_, _, _]) rfl ?_
    exact (r_Layout_findSegments_197 h :)
  · replace h := (if_pos hc).symm.trans h
    refine px_ld rfl rfl rfl rfl rfl ?_
    obtain ⟨t4, h0, h⟩ := xs_some h
    obtain ⟨fs, e1, e2⟩ := xgI_some h0
    refine px_get rfl e1 e2 rfl ?_
    refine px_ifle rfl (by decide) rfl (fun hc => ?_) (fun hc => ?_)
    · replace h := (if_pos hc).symm.trans h
      refine px_ic (k := 0) rfl rfl rfl ?_
      refine px_forget (n := 0) (lv' := [_, _, _]) rfl ?_
      exact (r_Layout_findSegments_202 h :)
    · replace h := (if_neg hc).symm.trans h
      refine px_forget (n := 0) (lv' := [_, _, _]) rfl ?_
      exact (r_Layout_findSegments_197 h :)
def f_Layout_findSegments_169 (F : Nat) (c : px_CT) (k114 : Nat → Int32 → px_H → Option (Unit × px_H)) (a0 : Nat) (a1 : Int32) (s0 : Nat) (s1 : Int32) (s2 : Int32) (ph : px_H) : Option (Unit × px_H) :=
  (xsI ph 3 s0 s1 (s2 &&& 1)).bind fun ph1 =>
  k114 a0 (a1 + nI 1) ph1
theorem r_Layout_findSegments_169 {l : Launch} {g : px_G} {d F : Nat} {k114 : Nat → Int32 → px_H → Option (Unit × px_H)} (hk114 : ∀ {a0 : Nat} {a1 : Int32} {ph : px_H} {r : Unit} {ph' : px_H}, k114 a0 a1 ph = some (r, ph') → PW l g (d + 1) m_Layout_findSegments 114 [.ref a0, .int a1, px_u] [] ph (px_qV r ph')) {a0 : Nat} {a1 : Int32} {s0 : Nat} {s1 : Int32} {s2 : Int32} {ph : px_H} {r : Unit} {ph' : px_H} (h : f_Layout_findSegments_169 F (px_ct g) k114 a0 a1 s0 s1 s2 ph = some (r, ph')) : PW l g (d + 1) m_Layout_findSegments 169 [.ref a0, .int a1, px_u] [.int s2, .int s1, .ref s0] ph (px_qV r ph') := by
  unfold f_Layout_findSegments_169 at h
  obtain ⟨ph1, h0, h⟩ := xs_some h
  obtain ⟨N, f, e1, e2, e3⟩ := xsI_some h0
  subst e3
  refine px_zast rfl e1 rfl e2 rfl ?_
  refine px_iinc (lv' := [_, _, _]) rfl rfl rfl rfl rfl rfl ?_
  refine px_goto rfl (by decide) rfl ?_
  exact (hk114 h :)
def f_Layout_findSegments_168 (F : Nat) (c : px_CT) (k114 : Nat → Int32 → px_H → Option (Unit × px_H)) (a0 : Nat) (a1 : Int32) (s0 : Nat) (s1 : Int32) (ph : px_H) : Option (Unit × px_H) :=
  f_Layout_findSegments_169 F c k114 a0 a1 s0 s1 (nI 0) ph
theorem r_Layout_findSegments_168 {l : Launch} {g : px_G} {d F : Nat} {k114 : Nat → Int32 → px_H → Option (Unit × px_H)} (hk114 : ∀ {a0 : Nat} {a1 : Int32} {ph : px_H} {r : Unit} {ph' : px_H}, k114 a0 a1 ph = some (r, ph') → PW l g (d + 1) m_Layout_findSegments 114 [.ref a0, .int a1, px_u] [] ph (px_qV r ph')) {a0 : Nat} {a1 : Int32} {s0 : Nat} {s1 : Int32} {ph : px_H} {r : Unit} {ph' : px_H} (h : f_Layout_findSegments_168 F (px_ct g) k114 a0 a1 s0 s1 ph = some (r, ph')) : PW l g (d + 1) m_Layout_findSegments 168 [.ref a0, .int a1, px_u] [.int s1, .ref s0] ph (px_qV r ph') := by
  unfold f_Layout_findSegments_168 at h
  refine px_ic (k := 0) rfl rfl rfl ?_
  exact (r_Layout_findSegments_169 @hk114 h :)
def f_Layout_findSegments_164 (F : Nat) (c : px_CT) (k114 : Nat → Int32 → px_H → Option (Unit × px_H)) (a0 : Nat) (a1 : Int32) (s0 : Nat) (s1 : Int32) (ph : px_H) : Option (Unit × px_H) :=
  f_Layout_findSegments_169 F c k114 a0 a1 s0 s1 (nI 1) ph
theorem r_Layout_findSegments_164 {l : Launch} {g : px_G} {d F : Nat} {k114 : Nat → Int32 → px_H → Option (Unit × px_H)} (hk114 : ∀ {a0 : Nat} {a1 : Int32} {ph : px_H} {r : Unit} {ph' : px_H}, k114 a0 a1 ph = some (r, ph') → PW l g (d + 1) m_Layout_findSegments 114 [.ref a0, .int a1, px_u] [] ph (px_qV r ph')) {a0 : Nat} {a1 : Int32} {s0 : Nat} {s1 : Int32} {ph : px_H} {r : Unit} {ph' : px_H} (h : f_Layout_findSegments_164 F (px_ct g) k114 a0 a1 s0 s1 ph = some (r, ph')) : PW l g (d + 1) m_Layout_findSegments 164 [.ref a0, .int a1, px_u] [.int s1, .ref s0] ph (px_qV r ph') := by
  unfold f_Layout_findSegments_164 at h
  refine px_ic (k := 1) rfl rfl rfl ?_
  refine px_goto rfl (by decide) rfl ?_
  exact (r_Layout_findSegments_169 @hk114 h :)
def f_Layout_findSegments_114 (F : Nat) (c : px_CT) : Nat → Nat → Int32 → px_H → Option (Unit × px_H)
  | 0, _, _, _ => none
  | n + 1, a0, a1, ph =>
    (xgR ph 2 0 a0).bind fun t1 =>
    (xgI ph 3 15 t1).bind fun t2 =>
    if t2 ≤ a1 then
      f_Layout_findSegments_176 F c a0 ph
    else
      (xgR ph 2 0 a0).bind fun t3 =>
      (xo ph 3 t3).bind fun _ =>
      xb (f_Link_definedAt F c t3 a1 ph) fun t4 ph5 =>
      (xgR ph5 2 4 a0).bind fun t6 =>
      (xgR ph5 2 4 a0).bind fun t7 =>
      (xaI ph5 3 t7 (nI 2)).bind fun t8 =>
      if t8 = 0 then
        xb (f_Layout_isLaidCommon F c t4 ph5) fun t9 ph10 =>
        if t9 = 0 then
          f_Layout_findSegments_168 F c (f_Layout_findSegments_114 F c n) a0 a1 t6 (nI 2) ph10
        else
          (t4).bind fun p11 =>
          (xgJ ph10 5 8 p11).bind fun t12 =>
          if t12 ≤ (lN 0) then
            f_Layout_findSegments_168 F c (f_Layout_findSegments_114 F c n) a0 a1 t6 (nI 2) ph10
          else
            f_Layout_findSegments_164 F c (f_Layout_findSegments_114 F c n) a0 a1 t6 (nI 2) ph10
      else
        f_Layout_findSegments_164 F c (f_Layout_findSegments_114 F c n) a0 a1 t6 (nI 2) ph5
theorem r_Layout_findSegments_114 {l : Launch} {g : px_G} {d F : Nat} : ∀ (n : Nat) {a0 : Nat} {a1 : Int32} {ph : px_H} {r : Unit} {ph' : px_H}, f_Layout_findSegments_114 F (px_ct g) n a0 a1 ph = some (r, ph') → PW l g (d + 1) m_Layout_findSegments 114 [.ref a0, .int a1, px_u] [] ph (px_qV r ph') := by
  intro n
  induction n with
  | zero => intro _ _ _ _ _ h; cases h
  | succ n ih =>
    intro a0 a1 ph r ph' h
    unfold f_Layout_findSegments_114 at h
    refine px_ld rfl rfl rfl rfl rfl ?_
    refine px_ld rfl rfl rfl rfl rfl ?_
    obtain ⟨t1, h0, h⟩ := xs_some h
    obtain ⟨fs, e1, e2⟩ := xgR_some h0
    refine px_get rfl e1 e2 rfl ?_
    obtain ⟨t2, h0, h⟩ := xs_some h
    obtain ⟨fs, e1, e2⟩ := xgI_some h0
    refine px_get rfl e1 e2 rfl ?_
    refine px_icge rfl (by decide) rfl (fun hc => ?_) (fun hc => ?_)
    · replace h := (if_pos hc).symm.trans h
      refine px_forget (n := 1) (lv' := [_, _, _]) rfl ?_
      exact (r_Layout_findSegments_176 h :)
    · replace h := (if_neg hc).symm.trans h
      refine px_ld rfl rfl rfl rfl rfl ?_
      obtain ⟨t3, h0, h⟩ := xs_some h
      obtain ⟨fs, e1, e2⟩ := xgR_some h0
      refine px_get rfl e1 e2 rfl ?_
      refine px_ld rfl rfl rfl rfl rfl ?_
      obtain ⟨fs, h0, h⟩ := xs_some h
      have e1 := xo_some h0
      obtain ⟨t4, ph5, h0, h⟩ := xb_some h
      refine px_cV1 rfl rfl e1 rfl rfl rfl rfl rfl rfl rfl (r_Link_definedAt h0 :) (fun _ _ q => nomatch q.2) (fun r ph' q => ?_)
      obtain ⟨rfl, q⟩ := q
      cases q
      refine px_st (lv' := [.ref a0, .int a1, va_rf t4]) rfl rfl (by first | rfl | (cases t4 <;> rfl)) (by first | rfl | (cases t4 <;> rfl)) rfl (by first | rfl | (cases t4 <;> rfl)) rfl ?_
      refine px_ld rfl rfl rfl rfl rfl ?_
      obtain ⟨t6, h0, h⟩ := xs_some h
      obtain ⟨fs, e1, e2⟩ := xgR_some h0
      refine px_get rfl e1 e2 rfl ?_
      refine px_ic (k := 2) rfl rfl rfl ?_
      refine px_ld rfl rfl rfl rfl rfl ?_
      obtain ⟨t7, h0, h⟩ := xs_some h
      obtain ⟨fs, e1, e2⟩ := xgR_some h0
      refine px_get rfl e1 e2 rfl ?_
      refine px_ic (k := 2) rfl rfl rfl ?_
      obtain ⟨t8, h0, h⟩ := xs_some h
      obtain ⟨N, f, e1, e2, e3⟩ := xaI_some h0
      subst e3
      refine px_zald rfl e1 rfl e2 rfl ?_
      refine px_ifne rfl (by decide) rfl (fun hc => ?_) (fun hc => ?_)
      · replace h := (if_neg hc).symm.trans h
        refine px_forget (n := 2) (lv' := [_, _, _]) rfl ?_
        exact (r_Layout_findSegments_164 @ih h :)
      · replace h := (if_pos hc).symm.trans h
        refine px_ld rfl rfl rfl (by first | rfl | (cases t4 <;> rfl)) rfl ?_
        obtain ⟨t9, ph10, h0, h⟩ := xb_some h
        refine px_cS1 (lv0 := [va_rf t4]) rfl rfl rfl (by first | rfl | (cases t4 <;> rfl)) rfl (by first | rfl | (cases t4 <;> rfl)) rfl (r_Layout_isLaidCommon h0 :) (fun _ _ q => nomatch q.2) (fun r ph' q => ?_)
        obtain ⟨rfl, q⟩ := q
        cases q
        refine px_ifeq rfl (by decide) rfl (fun hc => ?_) (fun hc => ?_)
        · replace h := (if_pos hc).symm.trans h
          refine px_forget (n := 2) (lv' := [_, _, _]) rfl ?_
          exact (r_Layout_findSegments_168 @ih h :)
        · replace h := (if_neg hc).symm.trans h
          refine px_ld rfl rfl rfl (by first | rfl | (cases t4 <;> rfl)) rfl ?_
          obtain ⟨p11, h0, h⟩ := xs_some h
          revert h
          subst h0
          intro h
          obtain ⟨t12, h0, h⟩ := xs_some h
          obtain ⟨fs, e1, e2⟩ := xgJ_some h0
          refine px_get rfl e1 e2 rfl ?_
          refine px_alu rfl rfl rfl ?_
          refine px_alu rfl rfl rfl ?_
          refine px_ifle rfl (by decide) rfl (fun hc => ?_) (fun hc => ?_)
          · replace h := (if_pos ((lg_cmp_le _ _).mp hc)).symm.trans h
            refine px_forget (n := 2) (lv' := [_, _, _]) rfl ?_
            exact (r_Layout_findSegments_168 @ih h :)
          · replace h := (if_neg (fun q => hc ((lg_cmp_le _ _).mpr q))).symm.trans h
            refine px_forget (n := 2) (lv' := [_, _, _]) rfl ?_
            exact (r_Layout_findSegments_164 @ih h :)
def f_Layout_findSegments_112 (F : Nat) (c : px_CT) (a0 : Nat) (ph : px_H) : Option (Unit × px_H) :=
  f_Layout_findSegments_114 F c F a0 (nI 0) ph
theorem r_Layout_findSegments_112 {l : Launch} {g : px_G} {d F : Nat} {a0 : Nat} {ph : px_H} {r : Unit} {ph' : px_H} (h : f_Layout_findSegments_112 F (px_ct g) a0 ph = some (r, ph')) : PW l g (d + 1) m_Layout_findSegments 112 [.ref a0, px_u, px_u] [] ph (px_qV r ph') := by
  unfold f_Layout_findSegments_112 at h
  refine px_ic (k := 0) rfl rfl rfl ?_
  refine px_st (lv' := [_, _, _]) rfl rfl rfl rfl rfl rfl rfl ?_
  exact (r_Layout_findSegments_114 _ h :)
def f_Layout_findSegments_106 (F : Nat) (c : px_CT) (k46 : Nat → Int32 → px_H → Option (Unit × px_H)) (a0 : Nat) (a1 : Int32) (ph : px_H) : Option (Unit × px_H) :=
  k46 a0 (a1 + nI 1) ph
theorem r_Layout_findSegments_106 {l : Launch} {g : px_G} {d F : Nat} {k46 : Nat → Int32 → px_H → Option (Unit × px_H)} (hk46 : ∀ {a0 : Nat} {a1 : Int32} {ph : px_H} {r : Unit} {ph' : px_H}, k46 a0 a1 ph = some (r, ph') → PW l g (d + 1) m_Layout_findSegments 46 [.ref a0, .int a1, px_u] [] ph (px_qV r ph')) {a0 : Nat} {a1 : Int32} {ph : px_H} {r : Unit} {ph' : px_H} (h : f_Layout_findSegments_106 F (px_ct g) k46 a0 a1 ph = some (r, ph')) : PW l g (d + 1) m_Layout_findSegments 106 [.ref a0, .int a1, px_u] [] ph (px_qV r ph') := by
  unfold f_Layout_findSegments_106 at h
  refine px_iinc (lv' := [_, _, _]) rfl rfl rfl rfl rfl rfl ?_
  refine px_goto rfl (by decide) rfl ?_
  exact (hk46 h :)
def f_Layout_findSegments_105 (F : Nat) (c : px_CT) (k46 : Nat → Int32 → px_H → Option (Unit × px_H)) (a0 : Nat) (a1 : Int32) (s0 : Nat) (s1 : Int32) (s2 : Int32) (ph : px_H) : Option (Unit × px_H) :=
  (xsI ph 3 s0 s1 (s2 &&& 1)).bind fun ph1 =>
  f_Layout_findSegments_106 F c k46 a0 a1 ph1
theorem r_Layout_findSegments_105 {l : Launch} {g : px_G} {d F : Nat} {k46 : Nat → Int32 → px_H → Option (Unit × px_H)} (hk46 : ∀ {a0 : Nat} {a1 : Int32} {ph : px_H} {r : Unit} {ph' : px_H}, k46 a0 a1 ph = some (r, ph') → PW l g (d + 1) m_Layout_findSegments 46 [.ref a0, .int a1, px_u] [] ph (px_qV r ph')) {a0 : Nat} {a1 : Int32} {s0 : Nat} {s1 : Int32} {s2 : Int32} {ph : px_H} {r : Unit} {ph' : px_H} (h : f_Layout_findSegments_105 F (px_ct g) k46 a0 a1 s0 s1 s2 ph = some (r, ph')) : PW l g (d + 1) m_Layout_findSegments 105 [.ref a0, .int a1, px_u] [.int s2, .int s1, .ref s0] ph (px_qV r ph') := by
  unfold f_Layout_findSegments_105 at h
  obtain ⟨ph1, h0, h⟩ := xs_some h
  obtain ⟨N, f, e1, e2, e3⟩ := xsI_some h0
  subst e3
  refine px_zast rfl e1 rfl e2 rfl ?_
  exact (r_Layout_findSegments_106 @hk46 h :)
def f_Layout_findSegments_100 (F : Nat) (c : px_CT) (k46 : Nat → Int32 → px_H → Option (Unit × px_H)) (a0 : Nat) (a1 : Int32) (s0 : Nat) (s1 : Int32) (ph : px_H) : Option (Unit × px_H) :=
  f_Layout_findSegments_105 F c k46 a0 a1 s0 s1 (nI 1) ph
theorem r_Layout_findSegments_100 {l : Launch} {g : px_G} {d F : Nat} {k46 : Nat → Int32 → px_H → Option (Unit × px_H)} (hk46 : ∀ {a0 : Nat} {a1 : Int32} {ph : px_H} {r : Unit} {ph' : px_H}, k46 a0 a1 ph = some (r, ph') → PW l g (d + 1) m_Layout_findSegments 46 [.ref a0, .int a1, px_u] [] ph (px_qV r ph')) {a0 : Nat} {a1 : Int32} {s0 : Nat} {s1 : Int32} {ph : px_H} {r : Unit} {ph' : px_H} (h : f_Layout_findSegments_100 F (px_ct g) k46 a0 a1 s0 s1 ph = some (r, ph')) : PW l g (d + 1) m_Layout_findSegments 100 [.ref a0, .int a1, px_u] [.int s1, .ref s0] ph (px_qV r ph') := by
  unfold f_Layout_findSegments_100 at h
  refine px_ic (k := 1) rfl rfl rfl ?_
  refine px_goto rfl (by decide) rfl ?_
  exact (r_Layout_findSegments_105 @hk46 h :)
def f_Layout_findSegments_46 (F : Nat) (c : px_CT) : Nat → Nat → Int32 → px_H → Option (Unit × px_H)
  | 0, _, _, _ => none
  | n + 1, a0, a1, ph =>
    (xgI ph 2 11 a0).bind fun t1 =>
    if t1 ≤ a1 then
      f_Layout_findSegments_112 F c a0 ph
    else
      (xo ph 2 a0).bind fun _ =>
      xb (f_Layout_partAt F c a0 a1 ph) fun t2 ph3 =>
      (t2).bind fun p4 =>
      (xgI ph3 8 5 p4).bind fun t5 =>
      if t5 ≤ 0 then
        f_Layout_findSegments_106 F c (f_Layout_findSegments_46 F c n) a0 a1 ph3
      else
        (xgR ph3 2 4 a0).bind fun t6 =>
        (xo ph3 2 a0).bind fun _ =>
        xb (f_Layout_segmentOf F c a0 (some p4) ph3) fun t7 ph8 =>
        (xsI ph8 3 t6 t7 ((nI 1) &&& 1)).bind fun ph9 =>
        (xgR ph9 2 4 a0).bind fun t10 =>
        (xgR ph9 2 4 a0).bind fun t11 =>
        (xaI ph9 3 t11 (nI 3)).bind fun t12 =>
        if t12 = 0 then
          (xgI ph9 8 4 p4).bind fun t13 =>
          if t13 < (nI 4) then
            f_Layout_findSegments_105 F c (f_Layout_findSegments_46 F c n) a0 a1 t10 (nI 3) (nI 0) ph9
          else
            f_Layout_findSegments_100 F c (f_Layout_findSegments_46 F c n) a0 a1 t10 (nI 3) ph9
        else
          f_Layout_findSegments_100 F c (f_Layout_findSegments_46 F c n) a0 a1 t10 (nI 3) ph9
theorem r_Layout_findSegments_46 {l : Launch} {g : px_G} {d F : Nat} : ∀ (n : Nat) {a0 : Nat} {a1 : Int32} {ph : px_H} {r : Unit} {ph' : px_H}, f_Layout_findSegments_46 F (px_ct g) n a0 a1 ph = some (r, ph') → PW l g (d + 1) m_Layout_findSegments 46 [.ref a0, .int a1, px_u] [] ph (px_qV r ph') := by
  intro n
  induction n with
  | zero => intro _ _ _ _ _ h; cases h
  | succ n ih =>
    intro a0 a1 ph r ph' h
    unfold f_Layout_findSegments_46 at h
    refine px_ld rfl rfl rfl rfl rfl ?_
    refine px_ld rfl rfl rfl rfl rfl ?_
    obtain ⟨t1, h0, h⟩ := xs_some h
    obtain ⟨fs, e1, e2⟩ := xgI_some h0
    refine px_get rfl e1 e2 rfl ?_
    refine px_icge rfl (by decide) rfl (fun hc => ?_) (fun hc => ?_)
    · replace h := (if_pos hc).symm.trans h
      refine px_forget (n := 1) (lv' := [_, _, _]) rfl ?_
      exact (r_Layout_findSegments_112 h :)
    · replace h := (if_neg hc).symm.trans h
      refine px_ld rfl rfl rfl rfl rfl ?_
      refine px_ld rfl rfl rfl rfl rfl ?_
      obtain ⟨fs, h0, h⟩ := xs_some h
      have e1 := xo_some h0
      obtain ⟨t2, ph3, h0, h⟩ := xb_some h
      refine px_cV1 rfl rfl e1 rfl rfl rfl rfl rfl rfl rfl (r_Layout_partAt h0 :) (fun _ _ q => nomatch q.2) (fun r ph' q => ?_)
      obtain ⟨rfl, q⟩ := q
      cases q
      refine px_st (lv' := [.ref a0, .int a1, va_rf t2]) rfl rfl (by first | rfl | (cases t2 <;> rfl)) (by first | rfl | (cases t2 <;> rfl)) rfl (by first | rfl | (cases t2 <;> rfl)) rfl ?_
      refine px_ld rfl rfl rfl (by first | rfl | (cases t2 <;> rfl)) rfl ?_
      obtain ⟨p4, h0, h⟩ := xs_some h
      revert h
      subst h0
      intro h
      obtain ⟨t5, h0, h⟩ := xs_some h
      obtain ⟨fs, e1, e2⟩ := xgI_some h0
      refine px_get rfl e1 e2 rfl ?_
      refine px_ifle rfl (by decide) rfl (fun hc => ?_) (fun hc => ?_)
      · replace h := (if_pos hc).symm.trans h
        refine px_forget (n := 2) (lv' := [_, _, _]) rfl ?_
        exact (r_Layout_findSegments_106 @ih h :)
      · replace h := (if_neg hc).symm.trans h
        refine px_ld rfl rfl rfl rfl rfl ?_
        obtain ⟨t6, h0, h⟩ := xs_some h
        obtain ⟨fs, e1, e2⟩ := xgR_some h0
        refine px_get rfl e1 e2 rfl ?_
        refine px_ld rfl rfl rfl rfl rfl ?_
        refine px_ld rfl rfl rfl rfl rfl ?_
        obtain ⟨fs, h0, h⟩ := xs_some h
        have e1 := xo_some h0
        obtain ⟨t7, ph8, h0, h⟩ := xb_some h
        refine px_cV1 rfl rfl e1 rfl rfl rfl rfl rfl rfl rfl (r_Layout_segmentOf h0 :) (fun _ _ q => nomatch q.2) (fun r ph' q => ?_)
        obtain ⟨rfl, q⟩ := q
        cases q
        refine px_ic (k := 1) rfl rfl rfl ?_
        obtain ⟨ph9, h0, h⟩ := xs_some h
        obtain ⟨N, f, e1, e2, e3⟩ := xsI_some h0
        subst e3
        refine px_zast rfl e1 rfl e2 rfl ?_
        refine px_ld rfl rfl rfl rfl rfl ?_
        obtain ⟨t10, h0, h⟩ := xs_some h
        obtain ⟨fs, e1, e2⟩ := xgR_some h0
        refine px_get rfl e1 e2 rfl ?_
        refine px_ic (k := 3) rfl rfl rfl ?_
        refine px_ld rfl rfl rfl rfl rfl ?_
        obtain ⟨t11, h0, h⟩ := xs_some h
        obtain ⟨fs, e1, e2⟩ := xgR_some h0
        refine px_get rfl e1 e2 rfl ?_
        refine px_ic (k := 3) rfl rfl rfl ?_
        obtain ⟨t12, h0, h⟩ := xs_some h
        obtain ⟨N, f, e1, e2, e3⟩ := xaI_some h0
        subst e3
        refine px_zald rfl e1 rfl e2 rfl ?_
        refine px_ifne rfl (by decide) rfl (fun hc => ?_) (fun hc => ?_)
        · replace h := (if_neg hc).symm.trans h
          refine px_forget (n := 2) (lv' := [_, _, _]) rfl ?_
          exact (r_Layout_findSegments_100 @ih h :)
        · replace h := (if_pos hc).symm.trans h
          refine px_ld rfl rfl rfl rfl rfl ?_
          obtain ⟨t13, h0, h⟩ := xs_some h
          obtain ⟨fs, e1, e2⟩ := xgI_some h0
          refine px_get rfl e1 e2 rfl ?_
          refine px_ic (k := 4) rfl rfl rfl ?_
          refine px_iclt rfl (by decide) rfl (fun hc => ?_) (fun hc => ?_)
          · replace h := (if_pos hc).symm.trans h
            refine px_ic (k := 0) rfl rfl rfl ?_
            refine px_forget (n := 2) (lv' := [_, _, _]) rfl ?_
            exact (r_Layout_findSegments_105 @ih h :)
          · replace h := (if_neg hc).symm.trans h
            refine px_forget (n := 2) (lv' := [_, _, _]) rfl ?_
            exact (r_Layout_findSegments_100 @ih h :)
def f_Layout_findSegments_44 (F : Nat) (c : px_CT) (a0 : Nat) (ph : px_H) : Option (Unit × px_H) :=
  f_Layout_findSegments_46 F c F a0 (nI 0) ph
theorem r_Layout_findSegments_44 {l : Launch} {g : px_G} {d F : Nat} {a0 : Nat} {ph : px_H} {r : Unit} {ph' : px_H} (h : f_Layout_findSegments_44 F (px_ct g) a0 ph = some (r, ph')) : PW l g (d + 1) m_Layout_findSegments 44 [.ref a0, px_u, px_u] [] ph (px_qV r ph') := by
  unfold f_Layout_findSegments_44 at h
  refine px_ic (k := 0) rfl rfl rfl ?_
  refine px_st (lv' := [_, _, _]) rfl rfl rfl rfl rfl rfl rfl ?_
  exact (r_Layout_findSegments_46 _ h :)
def f_Layout_findSegments_26 (F : Nat) (c : px_CT) : Nat → Nat → Int32 → px_H → Option (Unit × px_H)
  | 0, _, _, _ => none
  | n + 1, a0, a1, ph =>
    if (nI 3) < a1 then
      f_Layout_findSegments_44 F c a0 ph
    else
      (xgR ph 2 4 a0).bind fun t1 =>
      (xsI ph 3 t1 a1 ((nI 0) &&& 1)).bind fun ph2 =>
      f_Layout_findSegments_26 F c n a0 (a1 + nI 1) ph2
theorem r_Layout_findSegments_26 {l : Launch} {g : px_G} {d F : Nat} : ∀ (n : Nat) {a0 : Nat} {a1 : Int32} {ph : px_H} {r : Unit} {ph' : px_H}, f_Layout_findSegments_26 F (px_ct g) n a0 a1 ph = some (r, ph') → PW l g (d + 1) m_Layout_findSegments 26 [.ref a0, .int a1, px_u] [] ph (px_qV r ph') := by
  intro n
  induction n with
  | zero => intro _ _ _ _ _ h; cases h
  | succ n ih =>
    intro a0 a1 ph r ph' h
    unfold f_Layout_findSegments_26 at h
    refine px_ld rfl rfl rfl rfl rfl ?_
    refine px_ic (k := 3) rfl rfl rfl ?_
    refine px_icgt rfl (by decide) rfl (fun hc => ?_) (fun hc => ?_)
    · replace h := (if_pos hc).symm.trans h
      refine px_forget (n := 1) (lv' := [_, _, _]) rfl ?_
      exact (r_Layout_findSegments_44 h :)
    · replace h := (if_neg hc).symm.trans h
      refine px_ld rfl rfl rfl rfl rfl ?_
      obtain ⟨t1, h0, h⟩ := xs_some h
      obtain ⟨fs, e1, e2⟩ := xgR_some h0
      refine px_get rfl e1 e2 rfl ?_
      refine px_ld rfl rfl rfl rfl rfl ?_
      refine px_ic (k := 0) rfl rfl rfl ?_
      obtain ⟨ph2, h0, h⟩ := xs_some h
      obtain ⟨N, f, e1, e2, e3⟩ := xsI_some h0
      subst e3
      refine px_zast rfl e1 rfl e2 rfl ?_
      refine px_iinc (lv' := [_, _, _]) rfl rfl rfl rfl rfl rfl ?_
      refine px_goto rfl (by decide) rfl ?_
      exact (ih h :)
def f_Layout_findSegments (F : Nat) (c : px_CT) (a0 : Nat) (ph : px_H) : Option (Unit × px_H) :=
  (xgR ph 2 5 a0).bind fun t1 =>
  xb (f_Arrays_fill_2 F c t1 (lN 0) ph) fun _ ph2 =>
  (xgR ph2 2 7 a0).bind fun t3 =>
  xb (f_Arrays_fill_2 F c t3 (lN 0) ph2) fun _ ph4 =>
  (xgR ph4 2 8 a0).bind fun t5 =>
  xb (f_Arrays_fill_2 F c t5 (lN 0) ph4) fun _ ph6 =>
  f_Layout_findSegments_26 F c F a0 (nI 0) ph6
theorem r_Layout_findSegments {l : Launch} {g : px_G} {d F : Nat} {a0 : Nat} {ph : px_H} {r : Unit} {ph' : px_H} (h : f_Layout_findSegments F (px_ct g) a0 ph = some (r, ph')) : PW l g (d + 1) m_Layout_findSegments 0 [.ref a0, px_u, px_u] [] ph (px_qV r ph') := by
  unfold f_Layout_findSegments at h
  refine px_ld rfl rfl rfl rfl rfl ?_
  obtain ⟨t1, h0, h⟩ := xs_some h
  obtain ⟨fs, e1, e2⟩ := xgR_some h0
  refine px_get rfl e1 e2 rfl ?_
  refine px_alu rfl rfl rfl ?_
  obtain ⟨u0, ph2, h0, h⟩ := xb_some h
  refine px_cS2 rfl rfl rfl rfl rfl rfl rfl (r_Arrays_fill_2 h0 :) (fun _ _ q => nomatch q.2) (fun r ph' q => ?_)
  obtain ⟨rfl, q⟩ := q
  cases q
  refine px_ld rfl rfl rfl rfl rfl ?_
  obtain ⟨t3, h0, h⟩ := xs_some h
  obtain ⟨fs, e1, e2⟩ := xgR_some h0
  refine px_get rfl e1 e2 rfl ?_
  refine px_alu rfl rfl rfl ?_
  obtain ⟨u0, ph4, h0, h⟩ := xb_some h
  refine px_cS2 rfl rfl rfl rfl rfl rfl rfl (r_Arrays_fill_2 h0 :) (fun _ _ q => nomatch q.2) (fun r ph' q => ?_)
  obtain ⟨rfl, q⟩ := q
  cases q
  refine px_ld rfl rfl rfl rfl rfl ?_
  obtain ⟨t5, h0, h⟩ := xs_some h
  obtain ⟨fs, e1, e2⟩ := xgR_some h0
  refine px_get rfl e1 e2 rfl ?_
  refine px_alu rfl rfl rfl ?_
  obtain ⟨u0, ph6, h0, h⟩ := xb_some h
  refine px_cS2 rfl rfl rfl rfl rfl rfl rfl (r_Arrays_fill_2 h0 :) (fun _ _ q => nomatch q.2) (fun r ph' q => ?_)
  obtain ⟨rfl, q⟩ := q
  cases q
  refine px_ic (k := 0) rfl rfl rfl ?_
  refine px_st (lv' := [_, _, _]) rfl rfl rfl rfl rfl rfl rfl ?_
  exact (r_Layout_findSegments_26 _ h :)
def f_Layout_countSegments_32 (F : Nat) (c : px_CT) (a1 : Int32) (ph : px_H) : Option (Int32 × px_H) :=
  some (a1, ph)
theorem r_Layout_countSegments_32 {l : Launch} {g : px_G} {d F : Nat} {a1 : Int32} {ph : px_H} {r : Int32} {ph' : px_H} (h : f_Layout_countSegments_32 F (px_ct g) a1 ph = some (r, ph')) : PW l g (d + 0) m_Layout_countSegments 32 [px_u, .int a1, px_u] [] ph (px_qI r ph') := by
  unfold f_Layout_countSegments_32 at h
  refine px_ld rfl rfl rfl rfl rfl ?_
  cases h
  exact px_iret rfl (Or.inl rfl) rfl ⟨rfl, rfl⟩
def f_Layout_countSegments_24 (F : Nat) (c : px_CT) (k4 : Nat → Int32 → Int32 → px_H → Option (Int32 × px_H)) (a0 : Nat) (a2 : Int32) (s0 : Int32) (s1 : Int32) (ph : px_H) : Option (Int32 × px_H) :=
  k4 a0 (s0 + s1) (a2 + nI 1) ph
theorem r_Layout_countSegments_24 {l : Launch} {g : px_G} {d F : Nat} {k4 : Nat → Int32 → Int32 → px_H → Option (Int32 × px_H)} (hk4 : ∀ {a0 : Nat} {a1 : Int32} {a2 : Int32} {ph : px_H} {r : Int32} {ph' : px_H}, k4 a0 a1 a2 ph = some (r, ph') → PW l g (d + 0) m_Layout_countSegments 4 [.ref a0, .int a1, .int a2] [] ph (px_qI r ph')) {a0 : Nat} {a2 : Int32} {s0 : Int32} {s1 : Int32} {ph : px_H} {r : Int32} {ph' : px_H} (h : f_Layout_countSegments_24 F (px_ct g) k4 a0 a2 s0 s1 ph = some (r, ph')) : PW l g (d + 0) m_Layout_countSegments 24 [.ref a0, px_u, .int a2] [.int s1, .int s0] ph (px_qI r ph') := by
  unfold f_Layout_countSegments_24 at h
  refine px_alu rfl rfl rfl ?_
  refine px_st (lv' := [_, _, _]) rfl rfl rfl rfl rfl rfl rfl ?_
  refine px_iinc (lv' := [_, _, _]) rfl rfl rfl rfl rfl rfl ?_
  refine px_goto rfl rfl rfl ?_
  exact (hk4 h :)
def f_Layout_countSegments_4 (F : Nat) (c : px_CT) : Nat → Nat → Int32 → Int32 → px_H → Option (Int32 × px_H)
  | 0, _, _, _, _ => none
  | n + 1, a0, a1, a2, ph =>
    if (nI 3) ≤ a2 then
      f_Layout_countSegments_32 F c a1 ph
    else
      (xgR ph 2 4 a0).bind fun t1 =>
      (xaI ph 3 t1 a2).bind fun t2 =>
      if t2 = 0 then
        f_Layout_countSegments_24 F c (f_Layout_countSegments_4 F c n) a0 a2 a1 (nI 0) ph
      else
        f_Layout_countSegments_24 F c (f_Layout_countSegments_4 F c n) a0 a2 a1 (nI 1) ph
theorem r_Layout_countSegments_4 {l : Launch} {g : px_G} {d F : Nat} : ∀ (n : Nat) {a0 : Nat} {a1 : Int32} {a2 : Int32} {ph : px_H} {r : Int32} {ph' : px_H}, f_Layout_countSegments_4 F (px_ct g) n a0 a1 a2 ph = some (r, ph') → PW l g (d + 0) m_Layout_countSegments 4 [.ref a0, .int a1, .int a2] [] ph (px_qI r ph') := by
  intro n
  induction n with
  | zero => intro _ _ _ _ _ _ h; cases h
  | succ n ih =>
    intro a0 a1 a2 ph r ph' h
    unfold f_Layout_countSegments_4 at h
    refine px_ld rfl rfl rfl rfl rfl ?_
    refine px_ic (k := 3) rfl rfl rfl ?_
    refine px_icge rfl rfl rfl (fun hc => ?_) (fun hc => ?_)
    · replace h := (if_pos hc).symm.trans h
      refine px_forget (n := 0) (lv' := [_, _, _]) rfl ?_
      refine px_forget (n := 2) (lv' := [_, _, _]) rfl ?_
      exact (r_Layout_countSegments_32 h :)
    · replace h := (if_neg hc).symm.trans h
      refine px_ld rfl rfl rfl rfl rfl ?_
      refine px_ld rfl rfl rfl rfl rfl ?_
      obtain ⟨t1, h0, h⟩ := xs_some h
      obtain ⟨fs, e1, e2⟩ := xgR_some h0
      refine px_get rfl e1 e2 rfl ?_
      refine px_ld rfl rfl rfl rfl rfl ?_
      obtain ⟨t2, h0, h⟩ := xs_some h
      obtain ⟨N, f, e1, e2, e3⟩ := xaI_some h0
      subst e3
      refine px_zald rfl e1 rfl e2 rfl ?_
      refine px_ifeq rfl rfl rfl (fun hc => ?_) (fun hc => ?_)
      · replace h := (if_pos hc).symm.trans h
        refine px_ic (k := 0) rfl rfl rfl ?_
        refine px_forget (n := 1) (lv' := [_, _, _]) rfl ?_
        exact (r_Layout_countSegments_24 @ih h :)
      · replace h := (if_neg hc).symm.trans h
        refine px_ic (k := 1) rfl rfl rfl ?_
        refine px_goto rfl rfl rfl ?_
        refine px_forget (n := 1) (lv' := [_, _, _]) rfl ?_
        exact (r_Layout_countSegments_24 @ih h :)
def f_Layout_countSegments (F : Nat) (c : px_CT) (a0 : Nat) (ph : px_H) : Option (Int32 × px_H) :=
  f_Layout_countSegments_4 F c F a0 (nI 0) (nI 0) ph
theorem r_Layout_countSegments {l : Launch} {g : px_G} {d F : Nat} {a0 : Nat} {ph : px_H} {r : Int32} {ph' : px_H} (h : f_Layout_countSegments F (px_ct g) a0 ph = some (r, ph')) : PW l g (d + 0) m_Layout_countSegments 0 [.ref a0, px_u, px_u] [] ph (px_qI r ph') := by
  unfold f_Layout_countSegments at h
  refine px_ic (k := 0) rfl rfl rfl ?_
  refine px_st (lv' := [_, _, _]) rfl rfl rfl rfl rfl rfl rfl ?_
  refine px_ic (k := 0) rfl rfl rfl ?_
  refine px_st (lv' := [_, _, _]) rfl rfl rfl rfl rfl rfl rfl ?_
  exact (r_Layout_countSegments_4 _ h :)
def f_H_up (F : Nat) (c : px_CT) (a0 : Int64) (a2 : Int64) (ph : px_H) : Option (Int64 × px_H) :=
  some (((a0 + a2) - (lN 1)) &&& (- a2), ph)
theorem r_H_up {l : Launch} {g : px_G} {d F : Nat} {a0 : Int64} {a2 : Int64} {ph : px_H} {r : Int64} {ph' : px_H} (h : f_H_up F (px_ct g) a0 a2 ph = some (r, ph')) : PW l g (d + 0) m_H_up 0 [.long a0, px_u, .long a2, px_u] [] ph (px_qJ r ph') := by
  unfold f_H_up at h
  refine px_ld rfl rfl rfl rfl rfl ?_
  refine px_ld rfl rfl rfl rfl rfl ?_
  refine px_alu rfl rfl rfl ?_
  refine px_alu rfl rfl rfl ?_
  refine px_alu rfl rfl rfl ?_
  refine px_ld rfl rfl rfl rfl rfl ?_
  refine px_alu rfl rfl rfl ?_
  refine px_alu rfl rfl rfl ?_
  cases h
  exact px_lret rfl rfl rfl ⟨rfl, rfl⟩
def f_Layout_layGroup_95 (F : Nat) (c : px_CT) (a4 : Int64) (ph : px_H) : Option (Int64 × px_H) :=
  some (a4, ph)
theorem r_Layout_layGroup_95 {l : Launch} {g : px_G} {d F : Nat} {a4 : Int64} {ph : px_H} {r : Int64} {ph' : px_H} (h : f_Layout_layGroup_95 F (px_ct g) a4 ph = some (r, ph')) : PW l g (d + 1) m_Layout_layGroup 95 [px_u, px_u, px_u, px_u, .long a4, px_u, px_u, px_u] [] ph (px_qJ r ph') := by
  unfold f_Layout_layGroup_95 at h
  refine px_ld rfl rfl rfl rfl rfl ?_
  cases h
  exact px_lret rfl rfl rfl ⟨rfl, rfl⟩
def f_Layout_layGroup_89 (F : Nat) (c : px_CT) (k6 : Nat → Int32 → Int64 → Int32 → px_H → Option (Int64 × px_H)) (a0 : Nat) (a1 : Int32) (a4 : Int64) (a6 : Int32) (ph : px_H) : Option (Int64 × px_H) :=
  k6 a0 a1 a4 (a6 + nI 1) ph
theorem r_Layout_layGroup_89 {l : Launch} {g : px_G} {d F : Nat} {k6 : Nat → Int32 → Int64 → Int32 → px_H → Option (Int64 × px_H)} (hk6 : ∀ {a0 : Nat} {a1 : Int32} {a4 : Int64} {a6 : Int32} {ph : px_H} {r : Int64} {ph' : px_H}, k6 a0 a1 a4 a6 ph = some (r, ph') → PW l g (d + 1) m_Layout_layGroup 6 [.ref a0, .int a1, px_u, px_u, .long a4, px_u, .int a6, px_u] [] ph (px_qJ r ph')) {a0 : Nat} {a1 : Int32} {a4 : Int64} {a6 : Int32} {ph : px_H} {r : Int64} {ph' : px_H} (h : f_Layout_layGroup_89 F (px_ct g) k6 a0 a1 a4 a6 ph = some (r, ph')) : PW l g (d + 1) m_Layout_layGroup 89 [.ref a0, .int a1, px_u, px_u, .long a4, px_u, .int a6, px_u] [] ph (px_qJ r ph') := by
  unfold f_Layout_layGroup_89 at h
  refine px_iinc (lv' := [_, _, _, _, _, _, _, _]) rfl rfl rfl rfl rfl rfl ?_
  refine px_goto rfl rfl rfl ?_
  exact (hk6 h :)
def f_Layout_layGroup_72 (F : Nat) (c : px_CT) (k6 : Nat → Int32 → Int64 → Int32 → px_H → Option (Int64 × px_H)) (a0 : Nat) (a1 : Int32) (a6 : Int32) (a7 : Option Nat) (s0 : Option Nat) (s1 : Int64) (ph : px_H) : Option (Int64 × px_H) :=
  (s0).bind fun p1 =>
  (xpJ ph 8 11 p1 s1).bind fun ph2 =>
  (a7).bind fun p3 =>
  (xgJ ph2 8 11 p3).bind fun t4 =>
  (xgI ph2 8 5 p3).bind fun t5 =>
  f_Layout_layGroup_89 F c k6 a0 a1 (t4 + t5.toInt64) a6 ph2
theorem r_Layout_layGroup_72 {l : Launch} {g : px_G} {d F : Nat} {k6 : Nat → Int32 → Int64 → Int32 → px_H → Option (Int64 × px_H)} (hk6 : ∀ {a0 : Nat} {a1 : Int32} {a4 : Int64} {a6 : Int32} {ph : px_H} {r : Int64} {ph' : px_H}, k6 a0 a1 a4 a6 ph = some (r, ph') → PW l g (d + 1) m_Layout_layGroup 6 [.ref a0, .int a1, px_u, px_u, .long a4, px_u, .int a6, px_u] [] ph (px_qJ r ph')) {a0 : Nat} {a1 : Int32} {a6 : Int32} {a7 : Option Nat} {s0 : Option Nat} {s1 : Int64} {ph : px_H} {r : Int64} {ph' : px_H} (h : f_Layout_layGroup_72 F (px_ct g) k6 a0 a1 a6 a7 s0 s1 ph = some (r, ph')) : PW l g (d + 1) m_Layout_layGroup 72 [.ref a0, .int a1, px_u, px_u, px_u, px_u, .int a6, va_rf a7] [.long s1, va_rf s0] ph (px_qJ r ph') := by
  unfold f_Layout_layGroup_72 at h
  obtain ⟨p1, h0, h⟩ := xs_some h
  revert h
  subst h0
  intro h
  obtain ⟨ph2, h0, h⟩ := xs_some h
  obtain ⟨fs, e1, e2, e3⟩ := xpJ_some h0
  subst e3
  refine px_put rfl e1 e2 trivial rfl ?_
  refine px_ld rfl rfl rfl (by first | rfl | (cases a7 <;> rfl)) rfl ?_
  obtain ⟨p3, h0, h⟩ := xs_some h
  revert h
  subst h0
  intro h
  obtain ⟨t4, h0, h⟩ := xs_some h
  obtain ⟨fs, e1, e2⟩ := xgJ_some h0
  refine px_get rfl e1 e2 rfl ?_
  refine px_ld rfl rfl rfl rfl rfl ?_
  obtain ⟨t5, h0, h⟩ := xs_some h
  obtain ⟨fs, e1, e2⟩ := xgI_some h0
  refine px_get rfl e1 e2 rfl ?_
  refine px_alu rfl rfl rfl ?_
  refine px_alu rfl rfl rfl ?_
  refine px_st (lv' := [_, _, _, _, _, _, _, _]) rfl rfl rfl rfl rfl rfl rfl ?_
  refine px_forget (n := 7) (lv' := [_, _, _, _, _, _, _, _]) rfl ?_
  exact (r_Layout_layGroup_89 @hk6 h :)
def f_Layout_layGroup_6 (F : Nat) (c : px_CT) : Nat → Nat → Int32 → Int64 → Int32 → px_H → Option (Int64 × px_H)
  | 0, _, _, _, _, _ => none
  | n + 1, a0, a1, a4, a6, ph =>
    (xgI ph 2 11 a0).bind fun t1 =>
    if t1 ≤ a6 then
      f_Layout_layGroup_95 F c a4 ph
    else
      (xo ph 2 a0).bind fun _ =>
      xb (f_Layout_partAt F c a0 a6 ph) fun t2 ph3 =>
      (t2).bind fun p4 =>
      (xgI ph3 8 4 p4).bind fun t5 =>
      if t5 = a1 then
        (xgI ph3 8 10 p4).bind fun t6 =>
        if t6 = 0 then
          (xgR ph3 2 4 a0).bind fun t7 =>
          (xo ph3 2 a0).bind fun _ =>
          xb (f_Layout_segmentOf F c a0 (some p4) ph3) fun t8 ph9 =>
          (xaI ph9 3 t7 t8).bind fun t10 =>
          if t10 = 0 then
            f_Layout_layGroup_72 F c (f_Layout_layGroup_6 F c n) a0 a1 a6 (some p4) (some p4) a4 ph9
          else
            (xgI ph9 8 6 p4).bind fun t11 =>
            xb (f_H_up F c a4 t11.toInt64 ph9) fun t12 ph13 =>
            f_Layout_layGroup_72 F c (f_Layout_layGroup_6 F c n) a0 a1 a6 (some p4) (some p4) t12 ph13
        else
          f_Layout_layGroup_89 F c (f_Layout_layGroup_6 F c n) a0 a1 a4 a6 ph3
      else
        f_Layout_layGroup_89 F c (f_Layout_layGroup_6 F c n) a0 a1 a4 a6 ph3
theorem r_Layout_layGroup_6 {l : Launch} {g : px_G} {d F : Nat} : ∀ (n : Nat) {a0 : Nat} {a1 : Int32} {a4 : Int64} {a6 : Int32} {ph : px_H} {r : Int64} {ph' : px_H}, f_Layout_layGroup_6 F (px_ct g) n a0 a1 a4 a6 ph = some (r, ph') → PW l g (d + 1) m_Layout_layGroup 6 [.ref a0, .int a1, px_u, px_u, .long a4, px_u, .int a6, px_u] [] ph (px_qJ r ph') := by
  intro n
  induction n with
  | zero => intro _ _ _ _ _ _ _ h; cases h
  | succ n ih =>
    intro a0 a1 a4 a6 ph r ph' h
    unfold f_Layout_layGroup_6 at h
    refine px_ld rfl rfl rfl rfl rfl ?_
    refine px_ld rfl rfl rfl rfl rfl ?_
    obtain ⟨t1, h0, h⟩ := xs_some h
    obtain ⟨fs, e1, e2⟩ := xgI_some h0
    refine px_get rfl e1 e2 rfl ?_
    refine px_icge rfl rfl rfl (fun hc => ?_) (fun hc => ?_)
    · replace h := (if_pos hc).symm.trans h
      refine px_forget (n := 0) (lv' := [_, _, _, _, _, _, _, _]) rfl ?_
      refine px_forget (n := 1) (lv' := [_, _, _, _, _, _, _, _]) rfl ?_
      refine px_forget (n := 6) (lv' := [_, _, _, _, _, _, _, _]) rfl ?_
      exact (r_Layout_layGroup_95 h :)
    · replace h := (if_neg hc).symm.trans h
      refine px_ld rfl rfl rfl rfl rfl ?_
      refine px_ld rfl rfl rfl rfl rfl ?_
      obtain ⟨fs, h0, h⟩ := xs_some h
      have e1 := xo_some h0
      obtain ⟨t2, ph3, h0, h⟩ := xb_some h
      refine px_cV1 rfl rfl e1 rfl rfl rfl rfl rfl rfl rfl (r_Layout_partAt h0 :) (fun _ _ q => nomatch q.2) (fun r ph' q => ?_)
      obtain ⟨rfl, q⟩ := q
      cases q
      refine px_st (lv' := [.ref a0, .int a1, px_u, px_u, .long a4, px_u, .int a6, va_rf t2]) rfl rfl (by first | rfl | (cases t2 <;> rfl)) (by first | rfl | (cases t2 <;> rfl)) rfl (by first | rfl | (cases t2 <;> rfl)) rfl ?_
      refine px_ld rfl rfl rfl (by first | rfl | (cases t2 <;> rfl)) rfl ?_
      obtain ⟨p4, h0, h⟩ := xs_some h
      revert h
      subst h0
      intro h
      obtain ⟨t5, h0, h⟩ := xs_some h
      obtain ⟨fs, e1, e2⟩ := xgI_some h0
      refine px_get rfl e1 e2 rfl ?_
      refine px_ld rfl rfl rfl rfl rfl ?_
      refine px_icne rfl rfl rfl (fun hc => ?_) (fun hc => ?_)
      · replace h := (if_neg hc).symm.trans h
        refine px_forget (n := 7) (lv' := [_, _, _, _, _, _, _, _]) rfl ?_
        exact (r_Layout_layGroup_89 @ih h :)
      · replace h := (if_pos hc).symm.trans h
        refine px_ld rfl rfl rfl rfl rfl ?_
        obtain ⟨t6, h0, h⟩ := xs_some h
        obtain ⟨fs, e1, e2⟩ := xgI_some h0
        refine px_get rfl e1 e2 rfl ?_
        refine px_ifne rfl rfl rfl (fun hc => ?_) (fun hc => ?_)
        · replace h := (if_neg hc).symm.trans h
          refine px_forget (n := 7) (lv' := [_, _, _, _, _, _, _, _]) rfl ?_
          exact (r_Layout_layGroup_89 @ih h :)
        · replace h := (if_pos hc).symm.trans h
          refine px_ld rfl rfl rfl rfl rfl ?_
          refine px_ld rfl rfl rfl rfl rfl ?_
          obtain ⟨t7, h0, h⟩ := xs_some h
          obtain ⟨fs, e1, e2⟩ := xgR_some h0
          refine px_get rfl e1 e2 rfl ?_
          refine px_ld rfl rfl rfl rfl rfl ?_
          refine px_ld rfl rfl rfl rfl rfl ?_
          obtain ⟨fs, h0, h⟩ := xs_some h
          have e1 := xo_some h0
          obtain ⟨t8, ph9, h0, h⟩ := xb_some h
          refine px_cV1 rfl rfl e1 rfl rfl rfl rfl rfl rfl rfl (r_Layout_segmentOf h0 :) (fun _ _ q => nomatch q.2) (fun r ph' q => ?_)
          obtain ⟨rfl, q⟩ := q
          cases q
          obtain ⟨t10, h0, h⟩ := xs_some h
          obtain ⟨N, f, e1, e2, e3⟩ := xaI_some h0
          subst e3
          refine px_zald rfl e1 rfl e2 rfl ?_
          refine px_ifeq rfl rfl rfl (fun hc => ?_) (fun hc => ?_)
          · replace h := (if_pos hc).symm.trans h
            refine px_ld rfl rfl rfl rfl rfl ?_
            refine px_forget (n := 4) (lv' := [_, _, _, _, _, _, _, _]) rfl ?_
            exact (r_Layout_layGroup_72 @ih h :)
          · replace h := (if_neg hc).symm.trans h
            refine px_ld rfl rfl rfl rfl rfl ?_
            refine px_ld rfl rfl rfl rfl rfl ?_
            obtain ⟨t11, h0, h⟩ := xs_some h
            obtain ⟨fs, e1, e2⟩ := xgI_some h0
            refine px_get rfl e1 e2 rfl ?_
            refine px_alu rfl rfl rfl ?_
            obtain ⟨t12, ph13, h0, h⟩ := xb_some h
            refine px_cS2 rfl rfl rfl rfl rfl rfl rfl (r_H_up h0 :) (fun _ _ q => nomatch q.2) (fun r ph' q => ?_)
            obtain ⟨rfl, q⟩ := q
            cases q
            refine px_goto rfl rfl rfl ?_
            refine px_forget (n := 4) (lv' := [_, _, _, _, _, _, _, _]) rfl ?_
            exact (r_Layout_layGroup_72 @ih h :)
def f_Layout_layGroup (F : Nat) (c : px_CT) (a0 : Nat) (a1 : Int32) (a2 : Int64) (ph : px_H) : Option (Int64 × px_H) :=
  f_Layout_layGroup_6 F c F a0 a1 a2 (nI 0) ph
theorem r_Layout_layGroup {l : Launch} {g : px_G} {d F : Nat} {a0 : Nat} {a1 : Int32} {a2 : Int64} {ph : px_H} {r : Int64} {ph' : px_H} (h : f_Layout_layGroup F (px_ct g) a0 a1 a2 ph = some (r, ph')) : PW l g (d + 1) m_Layout_layGroup 0 [.ref a0, .int a1, .long a2, px_u, px_u, px_u, px_u, px_u] [] ph (px_qJ r ph') := by
  unfold f_Layout_layGroup at h
  refine px_ld rfl rfl rfl rfl rfl ?_
  refine px_st (lv' := [_, _, _, _, _, _, _, _]) rfl rfl rfl rfl rfl rfl rfl ?_
  refine px_ic (k := 0) rfl rfl rfl ?_
  refine px_st (lv' := [_, _, _, _, _, _, _, _]) rfl rfl rfl rfl rfl rfl rfl ?_
  refine px_forget (n := 2) (lv' := [_, _, _, _, _, _, _, _]) rfl ?_
  exact (r_Layout_layGroup_6 _ h :)
def f_Layout_firstOf_34 (F : Nat) (c : px_CT) (ph : px_H) : Option (Option Nat × px_H) :=
  some (none, ph)
theorem r_Layout_firstOf_34 {l : Launch} {g : px_G} {d F : Nat} {ph : px_H} {r : Option Nat} {ph' : px_H} (h : f_Layout_firstOf_34 F (px_ct g) ph = some (r, ph')) : PW l g (d + 1) m_Layout_firstOf 34 [px_u, px_u, px_u] [] ph (px_qN r ph') := by
  unfold f_Layout_firstOf_34 at h
  refine px_alu rfl rfl rfl ?_
  cases h
  exact px_aret rfl rfl (Or.inl ⟨_, rfl⟩) (by first | rfl | (cases none <;> rfl) | (cases r <;> rfl) | (cases none <;> cases r <;> rfl)) rfl ⟨rfl, rfl⟩
def f_Layout_firstOf_22 (F : Nat) (c : px_CT) (a0 : Nat) (a2 : Int32) (ph : px_H) : Option (Option Nat × px_H) :=
  (xo ph 2 a0).bind fun _ =>
  xb (f_Layout_partAt F c a0 a2 ph) fun t1 ph2 =>
  some (t1, ph2)
theorem r_Layout_firstOf_22 {l : Launch} {g : px_G} {d F : Nat} {a0 : Nat} {a2 : Int32} {ph : px_H} {r : Option Nat} {ph' : px_H} (h : f_Layout_firstOf_22 F (px_ct g) a0 a2 ph = some (r, ph')) : PW l g (d + 1) m_Layout_firstOf 22 [.ref a0, px_u, .int a2] [] ph (px_qN r ph') := by
  unfold f_Layout_firstOf_22 at h
  refine px_ld rfl rfl rfl rfl rfl ?_
  refine px_ld rfl rfl rfl rfl rfl ?_
  obtain ⟨fs, h0, h⟩ := xs_some h
  have e1 := xo_some h0
  obtain ⟨t1, ph2, h0, h⟩ := xb_some h
  refine px_cV1 rfl rfl e1 rfl rfl rfl rfl rfl rfl rfl (r_Layout_partAt h0 :) (fun _ _ q => nomatch q.2) (fun r ph' q => ?_)
  obtain ⟨rfl, q⟩ := q
  cases q
  cases h
  exact px_aret rfl rfl (Or.inl ⟨_, rfl⟩) (by first | rfl | (cases t1 <;> rfl) | (cases r <;> rfl) | (cases t1 <;> cases r <;> rfl)) rfl ⟨rfl, rfl⟩
def f_Layout_firstOf_2 (F : Nat) (c : px_CT) : Nat → Nat → Int32 → Int32 → px_H → Option (Option Nat × px_H)
  | 0, _, _, _, _ => none
  | n + 1, a0, a1, a2, ph =>
    (xgI ph 2 11 a0).bind fun t1 =>
    if t1 ≤ a2 then
      f_Layout_firstOf_34 F c ph
    else
      (xo ph 2 a0).bind fun _ =>
      xb (f_Layout_partAt F c a0 a2 ph) fun t2 ph3 =>
      (t2).bind fun p4 =>
      (xgI ph3 8 4 p4).bind fun t5 =>
      if t5 = a1 then
        f_Layout_firstOf_22 F c a0 a2 ph3
      else
        f_Layout_firstOf_2 F c n a0 a1 (a2 + nI 1) ph3
theorem r_Layout_firstOf_2 {l : Launch} {g : px_G} {d F : Nat} : ∀ (n : Nat) {a0 : Nat} {a1 : Int32} {a2 : Int32} {ph : px_H} {r : Option Nat} {ph' : px_H}, f_Layout_firstOf_2 F (px_ct g) n a0 a1 a2 ph = some (r, ph') → PW l g (d + 1) m_Layout_firstOf 2 [.ref a0, .int a1, .int a2] [] ph (px_qN r ph') := by
  intro n
  induction n with
  | zero => intro _ _ _ _ _ _ h; cases h
  | succ n ih =>
    intro a0 a1 a2 ph r ph' h
    unfold f_Layout_firstOf_2 at h
    refine px_ld rfl rfl rfl rfl rfl ?_
    refine px_ld rfl rfl rfl rfl rfl ?_
    obtain ⟨t1, h0, h⟩ := xs_some h
    obtain ⟨fs, e1, e2⟩ := xgI_some h0
    refine px_get rfl e1 e2 rfl ?_
    refine px_icge rfl rfl rfl (fun hc => ?_) (fun hc => ?_)
    · replace h := (if_pos hc).symm.trans h
      refine px_forget (n := 0) (lv' := [_, _, _]) rfl ?_
      refine px_forget (n := 1) (lv' := [_, _, _]) rfl ?_
      refine px_forget (n := 2) (lv' := [_, _, _]) rfl ?_
      exact (r_Layout_firstOf_34 h :)
    · replace h := (if_neg hc).symm.trans h
      refine px_ld rfl rfl rfl rfl rfl ?_
      refine px_ld rfl rfl rfl rfl rfl ?_
      obtain ⟨fs, h0, h⟩ := xs_some h
      have e1 := xo_some h0
      obtain ⟨t2, ph3, h0, h⟩ := xb_some h
      refine px_cV1 rfl rfl e1 rfl rfl rfl rfl rfl rfl rfl (r_Layout_partAt h0 :) (fun _ _ q => nomatch q.2) (fun r ph' q => ?_)
      obtain ⟨rfl, q⟩ := q
      cases q
      obtain ⟨p4, h0, h⟩ := xs_some h
      revert h
      subst h0
      intro h
      obtain ⟨t5, h0, h⟩ := xs_some h
      obtain ⟨fs, e1, e2⟩ := xgI_some h0
      refine px_get rfl e1 e2 rfl ?_
      refine px_ld rfl rfl rfl rfl rfl ?_
      refine px_icne rfl rfl rfl (fun hc => ?_) (fun hc => ?_)
      · replace h := (if_neg hc).symm.trans h
        refine px_iinc (lv' := [_, _, _]) rfl rfl rfl rfl rfl rfl ?_
        refine px_goto rfl rfl rfl ?_
        exact (ih h :)
      · replace h := (if_pos hc).symm.trans h
        refine px_forget (n := 1) (lv' := [_, _, _]) rfl ?_
        exact (r_Layout_firstOf_22 h :)
def f_Layout_firstOf (F : Nat) (c : px_CT) (a0 : Nat) (a1 : Int32) (ph : px_H) : Option (Option Nat × px_H) :=
  f_Layout_firstOf_2 F c F a0 a1 (nI 0) ph
theorem r_Layout_firstOf {l : Launch} {g : px_G} {d F : Nat} {a0 : Nat} {a1 : Int32} {ph : px_H} {r : Option Nat} {ph' : px_H} (h : f_Layout_firstOf F (px_ct g) a0 a1 ph = some (r, ph')) : PW l g (d + 1) m_Layout_firstOf 0 [.ref a0, .int a1, px_u] [] ph (px_qN r ph') := by
  unfold f_Layout_firstOf at h
  refine px_ic (k := 0) rfl rfl rfl ?_
  refine px_st (lv' := [_, _, _]) rfl rfl rfl rfl rfl rfl rfl ?_
  exact (r_Layout_firstOf_2 _ h :)
def f_Layout_layTemplate_173 (F : Nat) (c : px_CT) (a0 : Nat) (a3 : Int64) (a5 : Option Nat) (s0 : Nat) (s1 : Int32) (s2 : Int64) (ph : px_H) : Option (Unit × px_H) :=
  (xsJ ph 2 s0 s1 s2).bind fun ph1 =>
  (xgR ph1 2 8 a0).bind fun t2 =>
  (a5).bind fun p3 =>
  (xgJ ph1 8 11 p3).bind fun t4 =>
  (xsJ ph1 2 t2 (nI 3) (a3 - t4)).bind fun ph5 =>
  (xgJ ph5 2 16 a0).bind fun t6 =>
  xb (f_H_up F c a3 t6 ph5) fun t7 ph8 =>
  (xpJ ph8 2 17 a0 t7).bind fun ph9 =>
  some ((), ph9)
theorem r_Layout_layTemplate_173 {l : Launch} {g : px_G} {d F : Nat} {a0 : Nat} {a3 : Int64} {a5 : Option Nat} {s0 : Nat} {s1 : Int32} {s2 : Int64} {ph : px_H} {r : Unit} {ph' : px_H} (h : f_Layout_layTemplate_173 F (px_ct g) a0 a3 a5 s0 s1 s2 ph = some (r, ph')) : PW l g (d + 2) m_Layout_layTemplate 173 [.ref a0, px_u, px_u, .long a3, px_u, va_rf a5, px_u, px_u, px_u] [.long s2, .int s1, .ref s0] ph (px_qV r ph') := by
  unfold f_Layout_layTemplate_173 at h
  obtain ⟨ph1, h0, h⟩ := xs_some h
  obtain ⟨N, f, e1, e2, e3⟩ := xsJ_some h0
  subst e3
  refine px_last rfl e1 rfl e2 rfl ?_
  refine px_ld rfl rfl rfl rfl rfl ?_
  obtain ⟨t2, h0, h⟩ := xs_some h
  obtain ⟨fs, e1, e2⟩ := xgR_some h0
  refine px_get rfl e1 e2 rfl ?_
  refine px_ic (k := 3) rfl rfl rfl ?_
  refine px_ld rfl rfl rfl rfl rfl ?_
  refine px_ld rfl rfl rfl (by first | rfl | (cases a5 <;> rfl)) rfl ?_
  obtain ⟨p3, h0, h⟩ := xs_some h
  revert h
  subst h0
  intro h
  obtain ⟨t4, h0, h⟩ := xs_some h
  obtain ⟨fs, e1, e2⟩ := xgJ_some h0
  refine px_get rfl e1 e2 rfl ?_
  refine px_alu rfl rfl rfl ?_
  obtain ⟨ph5, h0, h⟩ := xs_some h
  obtain ⟨N, f, e1, e2, e3⟩ := xsJ_some h0
  subst e3
  refine px_last rfl e1 rfl e2 rfl ?_
  refine px_ld rfl rfl rfl rfl rfl ?_
  refine px_ld rfl rfl rfl rfl rfl ?_
  refine px_ld rfl rfl rfl rfl rfl ?_
  obtain ⟨t6, h0, h⟩ := xs_some h
  obtain ⟨fs, e1, e2⟩ := xgJ_some h0
  refine px_get rfl e1 e2 rfl ?_
  obtain ⟨t7, ph8, h0, h⟩ := xb_some h
  refine px_cS2 rfl rfl rfl rfl rfl rfl rfl (r_H_up h0 :) (fun _ _ q => nomatch q.2) (fun r ph' q => ?_)
  obtain ⟨rfl, q⟩ := q
  cases q
  obtain ⟨ph9, h0, h⟩ := xs_some h
  obtain ⟨fs, e1, e2, e3⟩ := xpJ_some h0
  subst e3
  refine px_put rfl e1 e2 trivial rfl ?_
  cases h
  exact px_vret rfl rfl rfl ⟨rfl, rfl⟩
def f_Layout_layTemplate_116 (F : Nat) (c : px_CT) (a0 : Nat) (a1 : Int64) (a3 : Int64) (a5 : Option Nat) (a6 : Int32) (ph : px_H) : Option (Unit × px_H) :=
  (xgR ph 2 6 a0).bind fun t1 =>
  (a5).bind fun p2 =>
  (xgJ ph 8 11 p2).bind fun t3 =>
  (xsJ ph 2 t1 (nI 3) t3).bind fun ph4 =>
  (xgR ph4 2 5 a0).bind fun t5 =>
  (xgR ph4 2 5 a0).bind fun t6 =>
  (xaJ ph4 2 t6 (nI 2)).bind fun t7 =>
  (xgJ ph4 8 11 p2).bind fun t8 =>
  (xgR ph4 2 6 a0).bind fun t9 =>
  (xaJ ph4 2 t9 (nI 2)).bind fun t10 =>
  (xsJ ph4 2 t5 (nI 3) ((t7 + t8) - t10)).bind fun ph11 =>
  (xgR ph11 2 7 a0).bind fun t12 =>
  if a6 = 0 then
    f_Layout_layTemplate_173 F c a0 a3 (some p2) t12 (nI 3) (lN 0) ph11
  else
    (xgJ ph11 8 11 p2).bind fun t13 =>
    f_Layout_layTemplate_173 F c a0 a3 (some p2) t12 (nI 3) (a1 - t13) ph11
theorem r_Layout_layTemplate_116 {l : Launch} {g : px_G} {d F : Nat} {a0 : Nat} {a1 : Int64} {a3 : Int64} {a5 : Option Nat} {a6 : Int32} {ph : px_H} {r : Unit} {ph' : px_H} (h : f_Layout_layTemplate_116 F (px_ct g) a0 a1 a3 a5 a6 ph = some (r, ph')) : PW l g (d + 2) m_Layout_layTemplate 116 [.ref a0, .long a1, px_u, .long a3, px_u, va_rf a5, .int a6, px_u, px_u] [] ph (px_qV r ph') := by
  unfold f_Layout_layTemplate_116 at h
  refine px_ld rfl rfl rfl rfl rfl ?_
  obtain ⟨t1, h0, h⟩ := xs_some h
  obtain ⟨fs, e1, e2⟩ := xgR_some h0
  refine px_get rfl e1 e2 rfl ?_
  refine px_ic (k := 3) rfl rfl rfl ?_
  refine px_ld rfl rfl rfl (by first | rfl | (cases a5 <;> rfl)) rfl ?_
  obtain ⟨p2, h0, h⟩ := xs_some h
  revert h
  subst h0
  intro h
  obtain ⟨t3, h0, h⟩ := xs_some h
  obtain ⟨fs, e1, e2⟩ := xgJ_some h0
  refine px_get rfl e1 e2 rfl ?_
  obtain ⟨ph4, h0, h⟩ := xs_some h
  obtain ⟨N, f, e1, e2, e3⟩ := xsJ_some h0
  subst e3
  refine px_last rfl e1 rfl e2 rfl ?_
  refine px_ld rfl rfl rfl rfl rfl ?_
  obtain ⟨t5, h0, h⟩ := xs_some h
  obtain ⟨fs, e1, e2⟩ := xgR_some h0
  refine px_get rfl e1 e2 rfl ?_
  refine px_ic (k := 3) rfl rfl rfl ?_
  refine px_ld rfl rfl rfl rfl rfl ?_
  obtain ⟨t6, h0, h⟩ := xs_some h
  obtain ⟨fs, e1, e2⟩ := xgR_some h0
  refine px_get rfl e1 e2 rfl ?_
  refine px_ic (k := 2) rfl rfl rfl ?_
  obtain ⟨t7, h0, h⟩ := xs_some h
  obtain ⟨N, f, e1, e2, e3⟩ := xaJ_some h0
  subst e3
  refine px_lald rfl e1 rfl e2 rfl ?_
  refine px_ld rfl rfl rfl rfl rfl ?_
  obtain ⟨t8, h0, h⟩ := xs_some h
  obtain ⟨fs, e1, e2⟩ := xgJ_some h0
  refine px_get rfl e1 e2 rfl ?_
  refine px_alu rfl rfl rfl ?_
  refine px_ld rfl rfl rfl rfl rfl ?_
  obtain ⟨t9, h0, h⟩ := xs_some h
  obtain ⟨fs, e1, e2⟩ := xgR_some h0
  refine px_get rfl e1 e2 rfl ?_
  refine px_ic (k := 2) rfl rfl rfl ?_
  obtain ⟨t10, h0, h⟩ := xs_some h
  obtain ⟨N, f, e1, e2, e3⟩ := xaJ_some h0
  subst e3
  refine px_lald rfl e1 rfl e2 rfl ?_
  refine px_alu rfl rfl rfl ?_
  obtain ⟨ph11, h0, h⟩ := xs_some h
  obtain ⟨N, f, e1, e2, e3⟩ := xsJ_some h0
  subst e3
  refine px_last rfl e1 rfl e2 rfl ?_
  refine px_ld rfl rfl rfl rfl rfl ?_
  obtain ⟨t12, h0, h⟩ := xs_some h
  obtain ⟨fs, e1, e2⟩ := xgR_some h0
  refine px_get rfl e1 e2 rfl ?_
  refine px_ic (k := 3) rfl rfl rfl ?_
  refine px_ld rfl rfl rfl rfl rfl ?_
  refine px_ifeq rfl (by decide) rfl (fun hc => ?_) (fun hc => ?_)
  · replace h := (if_pos hc).symm.trans h
    refine px_alu rfl rfl rfl ?_
    refine px_forget (n := 1) (lv' := [_, _, _, _, _, _, _, _, _]) rfl ?_
    refine px_forget (n := 6) (lv' := [_, _, _, _, _, _, _, _, _]) rfl ?_
    exact (r_Layout_layTemplate_173 h :)
  · replace h := (if_neg hc).symm.trans h
    refine px_ld rfl rfl rfl rfl rfl ?_
    refine px_ld rfl rfl rfl rfl rfl ?_
    obtain ⟨t13, h0, h⟩ := xs_some h
    obtain ⟨fs, e1, e2⟩ := xgJ_some h0
    refine px_get rfl e1 e2 rfl ?_
    refine px_alu rfl rfl rfl ?_
    refine px_goto rfl (by decide) rfl ?_
    refine px_forget (n := 1) (lv' := [_, _, _, _, _, _, _, _, _]) rfl ?_
    refine px_forget (n := 6) (lv' := [_, _, _, _, _, _, _, _, _]) rfl ?_
    exact (r_Layout_layTemplate_173 h :)
def f_Layout_layTemplate_107 (F : Nat) (c : px_CT) (k60 : Nat → Int64 → Int64 → Option Nat → Int32 → Int32 → px_H → Option (Unit × px_H)) (a0 : Nat) (a1 : Int64) (a3 : Int64) (a5 : Option Nat) (a6 : Int32) (a7 : Int32) (s0 : Nat) (s1 : Int64) (ph : px_H) : Option (Unit × px_H) :=
  (xpJ ph 2 16 s0 s1).bind fun ph1 =>
  k60 a0 a1 a3 a5 a6 (a7 + nI 1) ph1
theorem r_Layout_layTemplate_107 {l : Launch} {g : px_G} {d F : Nat} {k60 : Nat → Int64 → Int64 → Option Nat → Int32 → Int32 → px_H → Option (Unit × px_H)} (hk60 : ∀ {a0 : Nat} {a1 : Int64} {a3 : Int64} {a5 : Option Nat} {a6 : Int32} {a7 : Int32} {ph : px_H} {r : Unit} {ph' : px_H}, k60 a0 a1 a3 a5 a6 a7 ph = some (r, ph') → PW l g (d + 2) m_Layout_layTemplate 60 [.ref a0, .long a1, px_u, .long a3, px_u, va_rf a5, .int a6, .int a7, px_u] [] ph (px_qV r ph')) {a0 : Nat} {a1 : Int64} {a3 : Int64} {a5 : Option Nat} {a6 : Int32} {a7 : Int32} {s0 : Nat} {s1 : Int64} {ph : px_H} {r : Unit} {ph' : px_H} (h : f_Layout_layTemplate_107 F (px_ct g) k60 a0 a1 a3 a5 a6 a7 s0 s1 ph = some (r, ph')) : PW l g (d + 2) m_Layout_layTemplate 107 [.ref a0, .long a1, px_u, .long a3, px_u, va_rf a5, .int a6, .int a7, px_u] [.long s1, .ref s0] ph (px_qV r ph') := by
  unfold f_Layout_layTemplate_107 at h
  obtain ⟨ph1, h0, h⟩ := xs_some h
  obtain ⟨fs, e1, e2, e3⟩ := xpJ_some h0
  subst e3
  refine px_put rfl e1 e2 trivial rfl ?_
  refine px_iinc (lv' := [_, _, _, _, _, _, _, _, _]) rfl rfl rfl rfl rfl rfl ?_
  refine px_goto rfl (by decide) rfl ?_
  exact (hk60 h :)
def f_Layout_layTemplate_60 (F : Nat) (c : px_CT) : Nat → Nat → Int64 → Int64 → Option Nat → Int32 → Int32 → px_H → Option (Unit × px_H)
  | 0, _, _, _, _, _, _, _ => none
  | n + 1, a0, a1, a3, a5, a6, a7, ph =>
    (xgI ph 2 11 a0).bind fun t1 =>
    if t1 ≤ a7 then
      f_Layout_layTemplate_116 F c a0 a1 a3 a5 a6 ph
    else
      (xo ph 2 a0).bind fun _ =>
      xb (f_Layout_partAt F c a0 a7 ph) fun t2 ph3 =>
      (t2).bind fun p4 =>
      (xgI ph3 8 4 p4).bind fun t5 =>
      if t5 < (nI 4) then
        (xgJ ph3 2 16 a0).bind fun t6 =>
        f_Layout_layTemplate_107 F c (f_Layout_layTemplate_60 F c n) a0 a1 a3 a5 a6 a7 a0 t6 ph3
      else
        (xgJ ph3 2 16 a0).bind fun t7 =>
        (xgI ph3 8 6 p4).bind fun t8 =>
        f_Layout_layTemplate_107 F c (f_Layout_layTemplate_60 F c n) a0 a1 a3 a5 a6 a7 a0 (if t8.toInt64 < t7 then t7 else t8.toInt64) ph3
theorem r_Layout_layTemplate_60 {l : Launch} {g : px_G} {d F : Nat} : ∀ (n : Nat) {a0 : Nat} {a1 : Int64} {a3 : Int64} {a5 : Option Nat} {a6 : Int32} {a7 : Int32} {ph : px_H} {r : Unit} {ph' : px_H}, f_Layout_layTemplate_60 F (px_ct g) n a0 a1 a3 a5 a6 a7 ph = some (r, ph') → PW l g (d + 2) m_Layout_layTemplate 60 [.ref a0, .long a1, px_u, .long a3, px_u, va_rf a5, .int a6, .int a7, px_u] [] ph (px_qV r ph') := by
  intro n
  induction n with
  | zero => intro _ _ _ _ _ _ _ _ _ h; cases h
  | succ n ih =>
    intro a0 a1 a3 a5 a6 a7 ph r ph' h
    unfold f_Layout_layTemplate_60 at h
    refine px_ld rfl rfl rfl rfl rfl ?_
    refine px_ld rfl rfl rfl rfl rfl ?_
    obtain ⟨t1, h0, h⟩ := xs_some h
    obtain ⟨fs, e1, e2⟩ := xgI_some h0
    refine px_get rfl e1 e2 rfl ?_
    refine px_icge rfl (by decide) rfl (fun hc => ?_) (fun hc => ?_)
    · replace h := (if_pos hc).symm.trans h
      refine px_forget (n := 7) (lv' := [_, _, _, _, _, _, _, _, _]) rfl ?_
      exact (r_Layout_layTemplate_116 h :)
    · replace h := (if_neg hc).symm.trans h
      refine px_ld rfl rfl rfl rfl rfl ?_
      refine px_ld rfl rfl rfl rfl rfl ?_
      obtain ⟨fs, h0, h⟩ := xs_some h
      have e1 := xo_some h0
      obtain ⟨t2, ph3, h0, h⟩ := xb_some h
      refine px_cV1 rfl rfl e1 rfl rfl rfl rfl rfl rfl rfl (r_Layout_partAt h0 :) (fun _ _ q => nomatch q.2) (fun r ph' q => ?_)
      obtain ⟨rfl, q⟩ := q
      cases q
      refine px_st (lv' := [.ref a0, .long a1, px_u, .long a3, px_u, va_rf a5, .int a6, .int a7, va_rf t2]) rfl rfl (by first | rfl | (cases t2 <;> rfl)) (by first | rfl | (cases t2 <;> rfl)) rfl (by first | rfl | (cases t2 <;> rfl)) rfl ?_
      refine px_ld rfl rfl rfl rfl rfl ?_
      refine px_ld rfl rfl rfl (by first | rfl | (cases t2 <;> rfl)) rfl ?_
      obtain ⟨p4, h0, h⟩ := xs_some h
      revert h
      subst h0
      intro h
      obtain ⟨t5, h0, h⟩ := xs_some h
      obtain ⟨fs, e1, e2⟩ := xgI_some h0
      refine px_get rfl e1 e2 rfl ?_
      refine px_ic (k := 4) rfl rfl rfl ?_
      refine px_iclt rfl (by decide) rfl (fun hc => ?_) (fun hc => ?_)
      · replace h := (if_pos hc).symm.trans h
        refine px_ld rfl rfl rfl rfl rfl ?_
        obtain ⟨t6, h0, h⟩ := xs_some h
        obtain ⟨fs, e1, e2⟩ := xgJ_some h0
        refine px_get rfl e1 e2 rfl ?_
        refine px_forget (n := 8) (lv' := [_, _, _, _, _, _, _, _, _]) rfl ?_
        exact (r_Layout_layTemplate_107 @ih h :)
      · replace h := (if_neg hc).symm.trans h
        refine px_ld rfl rfl rfl rfl rfl ?_
        obtain ⟨t7, h0, h⟩ := xs_some h
        obtain ⟨fs, e1, e2⟩ := xgJ_some h0
        refine px_get rfl e1 e2 rfl ?_
        refine px_ld rfl rfl rfl rfl rfl ?_
        obtain ⟨t8, h0, h⟩ := xs_some h
        obtain ⟨fs, e1, e2⟩ := xgI_some h0
        refine px_get rfl e1 e2 rfl ?_
        refine px_alu rfl rfl rfl ?_
        refine px_maxl rfl rfl rfl ?_
        refine px_goto rfl (by decide) rfl ?_
        refine px_forget (n := 8) (lv' := [_, _, _, _, _, _, _, _, _]) rfl ?_
        exact (r_Layout_layTemplate_107 @ih h :)
def f_Layout_layTemplate_34 (F : Nat) (c : px_CT) (a0 : Nat) (a1 : Int64) (a3 : Int64) (a6 : Int32) (s0 : Option Nat) (ph : px_H) : Option (Unit × px_H) :=
  (xpJ ph 2 16 a0 (lN 1)).bind fun ph1 =>
  (xgR ph1 2 6 a0).bind fun t2 =>
  (xaJ ph1 2 t2 (nI 2)).bind fun t3 =>
  (xpJ ph1 2 17 a0 t3).bind fun ph4 =>
  (match s0 with
    | none => some ((), ph4)
    | some p5 => f_Layout_layTemplate_60 F c F a0 a1 a3 (some p5) a6 (nI 0) ph4)
theorem r_Layout_layTemplate_34 {l : Launch} {g : px_G} {d F : Nat} {a0 : Nat} {a1 : Int64} {a3 : Int64} {a6 : Int32} {s0 : Option Nat} {ph : px_H} {r : Unit} {ph' : px_H} (h : f_Layout_layTemplate_34 F (px_ct g) a0 a1 a3 a6 s0 ph = some (r, ph')) : PW l g (d + 2) m_Layout_layTemplate 34 [.ref a0, .long a1, px_u, .long a3, px_u, px_u, .int a6, px_u, px_u] [va_rf s0] ph (px_qV r ph') := by
  unfold f_Layout_layTemplate_34 at h
  refine px_st (lv' := [.ref a0, .long a1, px_u, .long a3, px_u, va_rf s0, .int a6, px_u, px_u]) rfl rfl (by first | rfl | (cases s0 <;> rfl)) (by first | rfl | (cases s0 <;> rfl)) rfl (by first | rfl | (cases s0 <;> rfl)) rfl ?_
  refine px_ld rfl rfl rfl rfl rfl ?_
  refine px_alu rfl rfl rfl ?_
  obtain ⟨ph1, h0, h⟩ := xs_some h
  obtain ⟨fs, e1, e2, e3⟩ := xpJ_some h0
  subst e3
  refine px_put rfl e1 e2 trivial rfl ?_
  refine px_ld rfl rfl rfl rfl rfl ?_
  refine px_ld rfl rfl rfl rfl rfl ?_
  obtain ⟨t2, h0, h⟩ := xs_some h
  obtain ⟨fs, e1, e2⟩ := xgR_some h0
  refine px_get rfl e1 e2 rfl ?_
  refine px_ic (k := 2) rfl rfl rfl ?_
  obtain ⟨t3, h0, h⟩ := xs_some h
  obtain ⟨N, f, e1, e2, e3⟩ := xaJ_some h0
  subst e3
  refine px_lald rfl e1 rfl e2 rfl ?_
  obtain ⟨ph4, h0, h⟩ := xs_some h
  obtain ⟨fs, e1, e2, e3⟩ := xpJ_some h0
  subst e3
  refine px_put rfl e1 e2 trivial rfl ?_
  refine px_ld rfl rfl rfl (by first | rfl | (cases s0 <;> rfl)) rfl ?_
  cases s0 with
  | none =>
    refine px_ifnnN rfl rfl ?_
    cases h
    exact px_vret rfl rfl rfl ⟨rfl, rfl⟩
  | some p5 =>
    refine px_ifnnR rfl (by decide) rfl ?_
    refine px_ic (k := 0) rfl rfl rfl ?_
    refine px_st (lv' := [_, _, _, _, _, _, _, _, _]) rfl rfl rfl rfl rfl rfl rfl ?_
    exact (r_Layout_layTemplate_60 _ h :)
def f_Layout_layTemplate_17 (F : Nat) (c : px_CT) (a0 : Nat) (a1 : Int64) (a3 : Int64) (a5 : Option Nat) (s0 : Int32) (ph : px_H) : Option (Unit × px_H) :=
  if s0 = 0 then
    (xo ph 2 a0).bind fun _ =>
    xb (f_Layout_firstOf F c a0 (nI 5) ph) fun t1 ph2 =>
    f_Layout_layTemplate_34 F c a0 a1 a3 s0 t1 ph2
  else
    f_Layout_layTemplate_34 F c a0 a1 a3 s0 a5 ph
theorem r_Layout_layTemplate_17 {l : Launch} {g : px_G} {d F : Nat} {a0 : Nat} {a1 : Int64} {a3 : Int64} {a5 : Option Nat} {s0 : Int32} {ph : px_H} {r : Unit} {ph' : px_H} (h : f_Layout_layTemplate_17 F (px_ct g) a0 a1 a3 a5 s0 ph = some (r, ph')) : PW l g (d + 2) m_Layout_layTemplate 17 [.ref a0, .long a1, px_u, .long a3, px_u, va_rf a5, px_u, px_u, px_u] [.int s0] ph (px_qV r ph') := by
  unfold f_Layout_layTemplate_17 at h
  refine px_st (lv' := [.ref a0, .long a1, px_u, .long a3, px_u, va_rf a5, .int s0, px_u, px_u]) rfl rfl rfl rfl (by first | rfl | (cases a5 <;> rfl)) rfl rfl ?_
  refine px_ld rfl rfl rfl rfl rfl ?_
  refine px_ifeq rfl (by decide) rfl (fun hc => ?_) (fun hc => ?_)
  · replace h := (if_pos hc).symm.trans h
    refine px_ld rfl rfl rfl rfl rfl ?_
    refine px_ic (k := 5) rfl rfl rfl ?_
    obtain ⟨fs, h0, h⟩ := xs_some h
    have e1 := xo_some h0
    obtain ⟨t1, ph2, h0, h⟩ := xb_some h
    refine px_cV1 rfl rfl e1 rfl rfl rfl rfl rfl rfl rfl (r_Layout_firstOf h0 :) (fun _ _ q => nomatch q.2) (fun r ph' q => ?_)
    obtain ⟨rfl, q⟩ := q
    cases q
    refine px_forget (n := 5) (lv' := [_, _, _, _, _, _, _, _, _]) rfl ?_
    exact (r_Layout_layTemplate_34 h :)
  · replace h := (if_neg hc).symm.trans h
    refine px_ld rfl rfl rfl (by first | rfl | (cases a5 <;> rfl)) rfl ?_
    refine px_goto rfl (by decide) rfl ?_
    refine px_forget (n := 5) (lv' := [_, _, _, _, _, _, _, _, _]) rfl ?_
    exact (r_Layout_layTemplate_34 h :)
def f_Layout_layTemplate (F : Nat) (c : px_CT) (a0 : Nat) (a1 : Int64) (a3 : Int64) (ph : px_H) : Option (Unit × px_H) :=
  (xo ph 2 a0).bind fun _ =>
  xb (f_Layout_firstOf F c a0 (nI 4) ph) fun t1 ph2 =>
  (match t1 with
    | none => f_Layout_layTemplate_17 F c a0 a1 a3 none (nI 0) ph2
    | some p3 => f_Layout_layTemplate_17 F c a0 a1 a3 (some p3) (nI 1) ph2)
theorem r_Layout_layTemplate {l : Launch} {g : px_G} {d F : Nat} {a0 : Nat} {a1 : Int64} {a3 : Int64} {ph : px_H} {r : Unit} {ph' : px_H} (h : f_Layout_layTemplate F (px_ct g) a0 a1 a3 ph = some (r, ph')) : PW l g (d + 2) m_Layout_layTemplate 0 [.ref a0, .long a1, px_u, .long a3, px_u, px_u, px_u, px_u, px_u] [] ph (px_qV r ph') := by
  unfold f_Layout_layTemplate at h
  refine px_ld rfl rfl rfl rfl rfl ?_
  refine px_ic (k := 4) rfl rfl rfl ?_
  obtain ⟨fs, h0, h⟩ := xs_some h
  have e1 := xo_some h0
  obtain ⟨t1, ph2, h0, h⟩ := xb_some h
  refine px_cV1 rfl rfl e1 rfl rfl rfl rfl rfl rfl rfl (r_Layout_firstOf h0 :) (fun _ _ q => nomatch q.2) (fun r ph' q => ?_)
  obtain ⟨rfl, q⟩ := q
  cases q
  refine px_st (lv' := [.ref a0, .long a1, px_u, .long a3, px_u, va_rf t1, px_u, px_u, px_u]) rfl rfl (by first | rfl | (cases t1 <;> rfl)) (by first | rfl | (cases t1 <;> rfl)) rfl (by first | rfl | (cases t1 <;> rfl)) rfl ?_
  refine px_ld rfl rfl rfl (by first | rfl | (cases t1 <;> rfl)) rfl ?_
  cases t1 with
  | none =>
    refine px_ifnullN rfl (by decide) rfl ?_
    refine px_ic (k := 0) rfl rfl rfl ?_
    exact (r_Layout_layTemplate_17 h :)
  | some p3 =>
    refine px_ifnullR rfl rfl ?_
    refine px_ic (k := 1) rfl rfl rfl ?_
    refine px_goto rfl (by decide) rfl ?_
    exact (r_Layout_layTemplate_17 h :)
def f_Layout_layData_230 (F : Nat) (c : px_CT) (a0 : Nat) (a1 : Int64) (s0 : Nat) (s1 : Int64) (ph : px_H) : Option (Unit × px_H) :=
  (xpJ ph 2 15 s0 s1).bind fun ph1 =>
  (xgR ph1 2 8 a0).bind fun t2 =>
  (xgR ph1 2 6 a0).bind fun t3 =>
  (xaJ ph1 2 t3 (nI 2)).bind fun t4 =>
  (xsJ ph1 2 t2 (nI 2) (a1 - t4)).bind fun ph5 =>
  some ((), ph5)
theorem r_Layout_layData_230 {l : Launch} {g : px_G} {d F : Nat} {a0 : Nat} {a1 : Int64} {s0 : Nat} {s1 : Int64} {ph : px_H} {r : Unit} {ph' : px_H} (h : f_Layout_layData_230 F (px_ct g) a0 a1 s0 s1 ph = some (r, ph')) : PW l g (d + 3) m_Layout_layData 230 [.ref a0, .long a1, px_u, px_u, px_u, px_u] [.long s1, .ref s0] ph (px_qV r ph') := by
  unfold f_Layout_layData_230 at h
  obtain ⟨ph1, h0, h⟩ := xs_some h
  obtain ⟨fs, e1, e2, e3⟩ := xpJ_some h0
  subst e3
  refine px_put rfl e1 e2 trivial rfl ?_
  refine px_ld rfl rfl rfl rfl rfl ?_
  obtain ⟨t2, h0, h⟩ := xs_some h
  obtain ⟨fs, e1, e2⟩ := xgR_some h0
  refine px_get rfl e1 e2 rfl ?_
  refine px_ic (k := 2) rfl rfl rfl ?_
  refine px_ld rfl rfl rfl rfl rfl ?_
  refine px_ld rfl rfl rfl rfl rfl ?_
  obtain ⟨t3, h0, h⟩ := xs_some h
  obtain ⟨fs, e1, e2⟩ := xgR_some h0
  refine px_get rfl e1 e2 rfl ?_
  refine px_ic (k := 2) rfl rfl rfl ?_
  obtain ⟨t4, h0, h⟩ := xs_some h
  obtain ⟨N, f, e1, e2, e3⟩ := xaJ_some h0
  subst e3
  refine px_lald rfl e1 rfl e2 rfl ?_
  refine px_alu rfl rfl rfl ?_
  obtain ⟨ph5, h0, h⟩ := xs_some h
  obtain ⟨N, f, e1, e2, e3⟩ := xsJ_some h0
  subst e3
  refine px_last rfl e1 rfl e2 rfl ?_
  cases h
  exact px_vret rfl rfl rfl ⟨rfl, rfl⟩
def f_Layout_layData_212 (F : Nat) (c : px_CT) (a0 : Nat) (a1 : Int64) (ph : px_H) : Option (Unit × px_H) :=
  (xgJ ph 2 15 a0).bind fun t1 =>
  if (lN 0) ≤ t1 then
    (xgJ ph 2 15 a0).bind fun t2 =>
    f_Layout_layData_230 F c a0 a1 a0 t2 ph
  else
    f_Layout_layData_230 F c a0 a1 a0 a1 ph
theorem r_Layout_layData_212 {l : Launch} {g : px_G} {d F : Nat} {a0 : Nat} {a1 : Int64} {ph : px_H} {r : Unit} {ph' : px_H} (h : f_Layout_layData_212 F (px_ct g) a0 a1 ph = some (r, ph')) : PW l g (d + 3) m_Layout_layData 212 [.ref a0, .long a1, px_u, px_u, px_u, px_u] [] ph (px_qV r ph') := by
  unfold f_Layout_layData_212 at h
  refine px_ld rfl rfl rfl rfl rfl ?_
  refine px_ld rfl rfl rfl rfl rfl ?_
  obtain ⟨t1, h0, h⟩ := xs_some h
  obtain ⟨fs, e1, e2⟩ := xgJ_some h0
  refine px_get rfl e1 e2 rfl ?_
  refine px_alu rfl rfl rfl ?_
  refine px_alu rfl rfl rfl ?_
  refine px_ifge rfl (by decide) rfl (fun hc => ?_) (fun hc => ?_)
  · replace h := (if_pos ((lg_cmp_ge _ _).mp hc)).symm.trans h
    refine px_ld rfl rfl rfl rfl rfl ?_
    obtain ⟨t2, h0, h⟩ := xs_some h
    obtain ⟨fs, e1, e2⟩ := xgJ_some h0
    refine px_get rfl e1 e2 rfl ?_
    exact (r_Layout_layData_230 h :)
  · replace h := (if_neg (fun q => hc ((lg_cmp_ge _ _).mpr q))).symm.trans h
    refine px_ld rfl rfl rfl rfl rfl ?_
    refine px_goto rfl (by decide) rfl ?_
    exact (r_Layout_layData_230 h :)
def f_Layout_layData_206 (F : Nat) (c : px_CT) (k111 : Nat → Int64 → Int32 → px_H → Option (Unit × px_H)) (a0 : Nat) (a1 : Int64) (a4 : Int32) (ph : px_H) : Option (Unit × px_H) :=
  k111 a0 a1 (a4 + nI 1) ph
theorem r_Layout_layData_206 {l : Launch} {g : px_G} {d F : Nat} {k111 : Nat → Int64 → Int32 → px_H → Option (Unit × px_H)} (hk111 : ∀ {a0 : Nat} {a1 : Int64} {a4 : Int32} {ph : px_H} {r : Unit} {ph' : px_H}, k111 a0 a1 a4 ph = some (r, ph') → PW l g (d + 3) m_Layout_layData 111 [.ref a0, .long a1, px_u, px_u, .int a4, px_u] [] ph (px_qV r ph')) {a0 : Nat} {a1 : Int64} {a4 : Int32} {ph : px_H} {r : Unit} {ph' : px_H} (h : f_Layout_layData_206 F (px_ct g) k111 a0 a1 a4 ph = some (r, ph')) : PW l g (d + 3) m_Layout_layData 206 [.ref a0, .long a1, px_u, px_u, .int a4, px_u] [] ph (px_qV r ph') := by
  unfold f_Layout_layData_206 at h
  refine px_iinc (lv' := [_, _, _, _, _, _]) rfl rfl rfl rfl rfl rfl ?_
  refine px_goto rfl (by decide) rfl ?_
  exact (hk111 h :)
def f_Layout_layData_203 (F : Nat) (c : px_CT) (k111 : Nat → Int64 → Int32 → px_H → Option (Unit × px_H)) (a0 : Nat) (a1 : Int64) (a4 : Int32) (s0 : Nat) (s1 : Int64) (ph : px_H) : Option (Unit × px_H) :=
  (xpJ ph 2 15 s0 s1).bind fun ph1 =>
  f_Layout_layData_206 F c k111 a0 a1 a4 ph1
theorem r_Layout_layData_203 {l : Launch} {g : px_G} {d F : Nat} {k111 : Nat → Int64 → Int32 → px_H → Option (Unit × px_H)} (hk111 : ∀ {a0 : Nat} {a1 : Int64} {a4 : Int32} {ph : px_H} {r : Unit} {ph' : px_H}, k111 a0 a1 a4 ph = some (r, ph') → PW l g (d + 3) m_Layout_layData 111 [.ref a0, .long a1, px_u, px_u, .int a4, px_u] [] ph (px_qV r ph')) {a0 : Nat} {a1 : Int64} {a4 : Int32} {s0 : Nat} {s1 : Int64} {ph : px_H} {r : Unit} {ph' : px_H} (h : f_Layout_layData_203 F (px_ct g) k111 a0 a1 a4 s0 s1 ph = some (r, ph')) : PW l g (d + 3) m_Layout_layData 203 [.ref a0, .long a1, px_u, px_u, .int a4, px_u] [.long s1, .ref s0] ph (px_qV r ph') := by
  unfold f_Layout_layData_203 at h
  obtain ⟨ph1, h0, h⟩ := xs_some h
  obtain ⟨fs, e1, e2, e3⟩ := xpJ_some h0
  subst e3
  refine px_put rfl e1 e2 trivial rfl ?_
  exact (r_Layout_layData_206 @hk111 h :)
def f_Layout_layData_166 (F : Nat) (c : px_CT) (k111 : Nat → Int64 → Int32 → px_H → Option (Unit × px_H)) (a0 : Nat) (a4 : Int32) (a5 : Option Nat) (s0 : Option Nat) (s1 : Int64) (ph : px_H) : Option (Unit × px_H) :=
  (s0).bind fun p1 =>
  (xpJ ph 5 14 p1 s1).bind fun ph2 =>
  (a5).bind fun p3 =>
  (xgJ ph2 5 14 p3).bind fun t4 =>
  (xgJ ph2 5 8 p3).bind fun t5 =>
  (xgJ ph2 2 15 a0).bind fun t6 =>
  if (lN 0) ≤ t6 then
    (xgJ ph2 2 15 a0).bind fun t7 =>
    f_Layout_layData_203 F c k111 a0 (t4 + t5) a4 a0 t7 ph2
  else
    (xgJ ph2 5 14 p3).bind fun t8 =>
    f_Layout_layData_203 F c k111 a0 (t4 + t5) a4 a0 t8 ph2
theorem r_Layout_layData_166 {l : Launch} {g : px_G} {d F : Nat} {k111 : Nat → Int64 → Int32 → px_H → Option (Unit × px_H)} (hk111 : ∀ {a0 : Nat} {a1 : Int64} {a4 : Int32} {ph : px_H} {r : Unit} {ph' : px_H}, k111 a0 a1 a4 ph = some (r, ph') → PW l g (d + 3) m_Layout_layData 111 [.ref a0, .long a1, px_u, px_u, .int a4, px_u] [] ph (px_qV r ph')) {a0 : Nat} {a4 : Int32} {a5 : Option Nat} {s0 : Option Nat} {s1 : Int64} {ph : px_H} {r : Unit} {ph' : px_H} (h : f_Layout_layData_166 F (px_ct g) k111 a0 a4 a5 s0 s1 ph = some (r, ph')) : PW l g (d + 3) m_Layout_layData 166 [.ref a0, px_u, px_u, px_u, .int a4, va_rf a5] [.long s1, va_rf s0] ph (px_qV r ph') := by
  unfold f_Layout_layData_166 at h
  obtain ⟨p1, h0, h⟩ := xs_some h
  revert h
  subst h0
  intro h
  obtain ⟨ph2, h0, h⟩ := xs_some h
  obtain ⟨fs, e1, e2, e3⟩ := xpJ_some h0
  subst e3
  refine px_put rfl e1 e2 trivial rfl ?_
  refine px_ld rfl rfl rfl (by first | rfl | (cases a5 <;> rfl)) rfl ?_
  obtain ⟨p3, h0, h⟩ := xs_some h
  revert h
  subst h0
  intro h
  obtain ⟨t4, h0, h⟩ := xs_some h
  obtain ⟨fs, e1, e2⟩ := xgJ_some h0
  refine px_get rfl e1 e2 rfl ?_
  refine px_ld rfl rfl rfl rfl rfl ?_
  obtain ⟨t5, h0, h⟩ := xs_some h
  obtain ⟨fs, e1, e2⟩ := xgJ_some h0
  refine px_get rfl e1 e2 rfl ?_
  refine px_alu rfl rfl rfl ?_
  refine px_st (lv' := [_, _, _, _, _, _]) rfl rfl rfl rfl rfl rfl rfl ?_
  refine px_ld rfl rfl rfl rfl rfl ?_
  refine px_ld rfl rfl rfl rfl rfl ?_
  obtain ⟨t6, h0, h⟩ := xs_some h
  obtain ⟨fs, e1, e2⟩ := xgJ_some h0
  refine px_get rfl e1 e2 rfl ?_
  refine px_alu rfl rfl rfl ?_
  refine px_alu rfl rfl rfl ?_
  refine px_ifge rfl (by decide) rfl (fun hc => ?_) (fun hc => ?_)
  · replace h := (if_pos ((lg_cmp_ge _ _).mp hc)).symm.trans h
    refine px_ld rfl rfl rfl rfl rfl ?_
    obtain ⟨t7, h0, h⟩ := xs_some h
    obtain ⟨fs, e1, e2⟩ := xgJ_some h0
    refine px_get rfl e1 e2 rfl ?_
    refine px_forget (n := 5) (lv' := [_, _, _, _, _, _]) rfl ?_
    exact (r_Layout_layData_203 @hk111 h :)
  · replace h := (if_neg (fun q => hc ((lg_cmp_ge _ _).mpr q))).symm.trans h
    refine px_ld rfl rfl rfl rfl rfl ?_
    obtain ⟨t8, h0, h⟩ := xs_some h
    obtain ⟨fs, e1, e2⟩ := xgJ_some h0
    refine px_get rfl e1 e2 rfl ?_
    refine px_goto rfl (by decide) rfl ?_
    refine px_forget (n := 5) (lv' := [_, _, _, _, _, _]) rfl ?_
    exact (r_Layout_layData_203 @hk111 h :)
def f_Layout_layData_111 (F : Nat) (c : px_CT) : Nat → Nat → Int64 → Int32 → px_H → Option (Unit × px_H)
  | 0, _, _, _, _ => none
  | n + 1, a0, a1, a4, ph =>
    (xgR ph 2 0 a0).bind fun t1 =>
    (xgI ph 3 15 t1).bind fun t2 =>
    if t2 ≤ a4 then
      f_Layout_layData_212 F c a0 a1 ph
    else
      (xgR ph 2 0 a0).bind fun t3 =>
      (xo ph 3 t3).bind fun _ =>
      xb (f_Link_definedAt F c t3 a4 ph) fun t4 ph5 =>
      xb (f_Layout_isLaidCommon F c t4 ph5) fun t6 ph7 =>
      if t6 = 0 then
        f_Layout_layData_206 F c (f_Layout_layData_111 F c n) a0 a1 a4 ph7
      else
        (xgR ph7 2 4 a0).bind fun t8 =>
        (xaI ph7 3 t8 (nI 2)).bind fun t9 =>
        if t9 = 0 then
          f_Layout_layData_166 F c (f_Layout_layData_111 F c n) a0 a4 t4 t4 a1 ph7
        else
          (t4).bind fun p10 =>
          (xgJ ph7 5 7 p10).bind fun t11 =>
          xb (f_H_up F c a1 t11 ph7) fun t12 ph13 =>
          f_Layout_layData_166 F c (f_Layout_layData_111 F c n) a0 a4 (some p10) (some p10) t12 ph13
theorem r_Layout_layData_111 {l : Launch} {g : px_G} {d F : Nat} : ∀ (n : Nat) {a0 : Nat} {a1 : Int64} {a4 : Int32} {ph : px_H} {r : Unit} {ph' : px_H}, f_Layout_layData_111 F (px_ct g) n a0 a1 a4 ph = some (r, ph') → PW l g (d + 3) m_Layout_layData 111 [.ref a0, .long a1, px_u, px_u, .int a4, px_u] [] ph (px_qV r ph') := by
  intro n
  induction n with
  | zero => intro _ _ _ _ _ _ h; cases h
  | succ n ih =>
    intro a0 a1 a4 ph r ph' h
    unfold f_Layout_layData_111 at h
    refine px_ld rfl rfl rfl rfl rfl ?_
    refine px_ld rfl rfl rfl rfl rfl ?_
    obtain ⟨t1, h0, h⟩ := xs_some h
    obtain ⟨fs, e1, e2⟩ := xgR_some h0
    refine px_get rfl e1 e2 rfl ?_
    obtain ⟨t2, h0, h⟩ := xs_some h
    obtain ⟨fs, e1, e2⟩ := xgI_some h0
    refine px_get rfl e1 e2 rfl ?_
    refine px_icge rfl (by decide) rfl (fun hc => ?_) (fun hc => ?_)
    · replace h := (if_pos hc).symm.trans h
      refine px_forget (n := 4) (lv' := [_, _, _, _, _, _]) rfl ?_
      exact (r_Layout_layData_212 h :)
    · replace h := (if_neg hc).symm.trans h
      refine px_ld rfl rfl rfl rfl rfl ?_
      obtain ⟨t3, h0, h⟩ := xs_some h
      obtain ⟨fs, e1, e2⟩ := xgR_some h0
      refine px_get rfl e1 e2 rfl ?_
      refine px_ld rfl rfl rfl rfl rfl ?_
      obtain ⟨fs, h0, h⟩ := xs_some h
      have e1 := xo_some h0
      obtain ⟨t4, ph5, h0, h⟩ := xb_some h
      refine px_cV1 rfl rfl e1 rfl rfl rfl rfl rfl rfl rfl (r_Link_definedAt h0 :) (fun _ _ q => nomatch q.2) (fun r ph' q => ?_)
      obtain ⟨rfl, q⟩ := q
      cases q
      refine px_st (lv' := [.ref a0, .long a1, px_u, px_u, .int a4, va_rf t4]) rfl rfl (by first | rfl | (cases t4 <;> rfl)) (by first | rfl | (cases t4 <;> rfl)) rfl (by first | rfl | (cases t4 <;> rfl)) rfl ?_
      refine px_ld rfl rfl rfl (by first | rfl | (cases t4 <;> rfl)) rfl ?_
      obtain ⟨t6, ph7, h0, h⟩ := xb_some h
      refine px_cS1 (lv0 := [va_rf t4]) rfl rfl rfl (by first | rfl | (cases t4 <;> rfl)) rfl (by first | rfl | (cases t4 <;> rfl)) rfl (r_Layout_isLaidCommon h0 :) (fun _ _ q => nomatch q.2) (fun r ph' q => ?_)
      obtain ⟨rfl, q⟩ := q
      cases q
      refine px_ifeq rfl (by decide) rfl (fun hc => ?_) (fun hc => ?_)
      · replace h := (if_pos hc).symm.trans h
        refine px_forget (n := 5) (lv' := [_, _, _, _, _, _]) rfl ?_
        exact (r_Layout_layData_206 @ih h :)
      · replace h := (if_neg hc).symm.trans h
        refine px_ld rfl rfl rfl (by first | rfl | (cases t4 <;> rfl)) rfl ?_
        refine px_ld rfl rfl rfl rfl rfl ?_
        obtain ⟨t8, h0, h⟩ := xs_some h
        obtain ⟨fs, e1, e2⟩ := xgR_some h0
        refine px_get rfl e1 e2 rfl ?_
        refine px_ic (k := 2) rfl rfl rfl ?_
        obtain ⟨t9, h0, h⟩ := xs_some h
        obtain ⟨N, f, e1, e2, e3⟩ := xaI_some h0
        subst e3
        refine px_zald rfl e1 rfl e2 rfl ?_
        refine px_ifeq rfl (by decide) rfl (fun hc => ?_) (fun hc => ?_)
        · replace h := (if_pos hc).symm.trans h
          refine px_ld rfl rfl rfl rfl rfl ?_
          refine px_forget (n := 1) (lv' := [_, _, _, _, _, _]) rfl ?_
          exact (r_Layout_layData_166 @ih h :)
        · replace h := (if_neg hc).symm.trans h
          refine px_ld rfl rfl rfl rfl rfl ?_
          refine px_ld rfl rfl rfl (by first | rfl | (cases t4 <;> rfl)) rfl ?_
          obtain ⟨p10, h0, h⟩ := xs_some h
          revert h
          subst h0
          intro h
          obtain ⟨t11, h0, h⟩ := xs_some h
          obtain ⟨fs, e1, e2⟩ := xgJ_some h0
          refine px_get rfl e1 e2 rfl ?_
          obtain ⟨t12, ph13, h0, h⟩ := xb_some h
          refine px_cS2 rfl rfl rfl rfl rfl rfl rfl (r_H_up h0 :) (fun _ _ q => nomatch q.2) (fun r ph' q => ?_)
          obtain ⟨rfl, q⟩ := q
          cases q
          refine px_goto rfl (by decide) rfl ?_
          refine px_forget (n := 1) (lv' := [_, _, _, _, _, _]) rfl ?_
          exact (r_Layout_layData_166 @ih h :)
def f_Layout_layData_105 (F : Nat) (c : px_CT) (a0 : Nat) (a1 : Int64) (s0 : Nat) (s1 : Int64) (ph : px_H) : Option (Unit × px_H) :=
  (xpJ ph 2 15 s0 s1).bind fun ph1 =>
  f_Layout_layData_111 F c F a0 a1 (nI 0) ph1
theorem r_Layout_layData_105 {l : Launch} {g : px_G} {d F : Nat} {a0 : Nat} {a1 : Int64} {s0 : Nat} {s1 : Int64} {ph : px_H} {r : Unit} {ph' : px_H} (h : f_Layout_layData_105 F (px_ct g) a0 a1 s0 s1 ph = some (r, ph')) : PW l g (d + 3) m_Layout_layData 105 [.ref a0, .long a1, px_u, px_u, px_u, px_u] [.long s1, .ref s0] ph (px_qV r ph') := by
  unfold f_Layout_layData_105 at h
  obtain ⟨ph1, h0, h⟩ := xs_some h
  obtain ⟨fs, e1, e2, e3⟩ := xpJ_some h0
  subst e3
  refine px_put rfl e1 e2 trivial rfl ?_
  refine px_ic (k := 0) rfl rfl rfl ?_
  refine px_st (lv' := [_, _, _, _, _, _]) rfl rfl rfl rfl rfl rfl rfl ?_
  exact (r_Layout_layData_111 _ h :)
def f_Layout_layData_63 (F : Nat) (c : px_CT) (a0 : Nat) (a1 : Int64) (ph : px_H) : Option (Unit × px_H) :=
  (xgR ph 2 7 a0).bind fun t1 =>
  (xgR ph 2 6 a0).bind fun t2 =>
  (xaJ ph 2 t2 (nI 2)).bind fun t3 =>
  (xsJ ph 2 t1 (nI 2) (a1 - t3)).bind fun ph4 =>
  (xo ph4 2 a0).bind fun _ =>
  xb (f_Layout_layGroup F c a0 (nI 3) a1 ph4) fun t5 ph6 =>
  (xo ph6 2 a0).bind fun _ =>
  xb (f_Layout_firstOf F c a0 (nI 3) ph6) fun t7 ph8 =>
  (match t7 with
    | none => f_Layout_layData_105 F c a0 t5 a0 ((-1 : Int64)) ph8
    | some p9 => (xgJ ph8 8 11 p9).bind fun t10 =>
    f_Layout_layData_105 F c a0 t5 a0 t10 ph8)
theorem r_Layout_layData_63 {l : Launch} {g : px_G} {d F : Nat} {a0 : Nat} {a1 : Int64} {ph : px_H} {r : Unit} {ph' : px_H} (h : f_Layout_layData_63 F (px_ct g) a0 a1 ph = some (r, ph')) : PW l g (d + 3) m_Layout_layData 63 [.ref a0, .long a1, px_u, px_u, px_u, px_u] [] ph (px_qV r ph') := by
  unfold f_Layout_layData_63 at h
  refine px_ld rfl rfl rfl rfl rfl ?_
  obtain ⟨t1, h0, h⟩ := xs_some h
  obtain ⟨fs, e1, e2⟩ := xgR_some h0
  refine px_get rfl e1 e2 rfl ?_
  refine px_ic (k := 2) rfl rfl rfl ?_
  refine px_ld rfl rfl rfl rfl rfl ?_
  refine px_ld rfl rfl rfl rfl rfl ?_
  obtain ⟨t2, h0, h⟩ := xs_some h
  obtain ⟨fs, e1, e2⟩ := xgR_some h0
  refine px_get rfl e1 e2 rfl ?_
  refine px_ic (k := 2) rfl rfl rfl ?_
  obtain ⟨t3, h0, h⟩ := xs_some h
  obtain ⟨N, f, e1, e2, e3⟩ := xaJ_some h0
  subst e3
  refine px_lald rfl e1 rfl e2 rfl ?_
  refine px_alu rfl rfl rfl ?_
  obtain ⟨ph4, h0, h⟩ := xs_some h
  obtain ⟨N, f, e1, e2, e3⟩ := xsJ_some h0
  subst e3
  refine px_last rfl e1 rfl e2 rfl ?_
  refine px_ld rfl rfl rfl rfl rfl ?_
  refine px_ic (k := 3) rfl rfl rfl ?_
  refine px_ld rfl rfl rfl rfl rfl ?_
  obtain ⟨fs, h0, h⟩ := xs_some h
  have e1 := xo_some h0
  obtain ⟨t5, ph6, h0, h⟩ := xb_some h
  refine px_cV2 rfl rfl e1 rfl rfl rfl rfl rfl rfl rfl (r_Layout_layGroup h0 :) (fun _ _ q => nomatch q.2) (fun r ph' q => ?_)
  obtain ⟨rfl, q⟩ := q
  cases q
  refine px_st (lv' := [_, _, _, _, _, _]) rfl rfl rfl rfl rfl rfl rfl ?_
  refine px_ld rfl rfl rfl rfl rfl ?_
  refine px_ic (k := 3) rfl rfl rfl ?_
  obtain ⟨fs, h0, h⟩ := xs_some h
  have e1 := xo_some h0
  obtain ⟨t7, ph8, h0, h⟩ := xb_some h
  refine px_cV1 rfl rfl e1 rfl rfl rfl rfl rfl rfl rfl (r_Layout_firstOf h0 :) (fun _ _ q => nomatch q.2) (fun r ph' q => ?_)
  obtain ⟨rfl, q⟩ := q
  cases q
  refine px_st (lv' := [.ref a0, .long t5, px_u, va_rf t7, px_u, px_u]) rfl rfl (by first | rfl | (cases t7 <;> rfl)) (by first | rfl | (cases t7 <;> rfl)) rfl (by first | rfl | (cases t7 <;> rfl)) rfl ?_
  refine px_ld rfl rfl rfl rfl rfl ?_
  refine px_ld rfl rfl rfl (by first | rfl | (cases t7 <;> rfl)) rfl ?_
  cases t7 with
  | none =>
    refine px_ifnnN rfl rfl ?_
    refine px_ldc2 rfl rfl rfl ?_
    refine px_goto rfl (by decide) rfl ?_
    refine px_forget (n := 3) (lv' := [_, _, _, _, _, _]) rfl ?_
    exact (r_Layout_layData_105 h :)
  | some p9 =>
    refine px_ifnnR rfl (by decide) rfl ?_
    refine px_ld rfl rfl rfl rfl rfl ?_
    obtain ⟨t10, h0, h⟩ := xs_some h
    obtain ⟨fs, e1, e2⟩ := xgJ_some h0
    refine px_get rfl e1 e2 rfl ?_
    refine px_forget (n := 3) (lv' := [_, _, _, _, _, _]) rfl ?_
    exact (r_Layout_layData_105 h :)
def f_Layout_layData (F : Nat) (c : px_CT) (a0 : Nat) (ph : px_H) : Option (Unit × px_H) :=
  (xgR ph 2 6 a0).bind fun t1 =>
  (xaJ ph 2 t1 (nI 2)).bind fun t2 =>
  (xo ph 2 a0).bind fun _ =>
  xb (f_Layout_layGroup F c a0 (nI 4) t2 ph) fun t3 ph4 =>
  (xo ph4 2 a0).bind fun _ =>
  xb (f_Layout_layGroup F c a0 (nI 5) t3 ph4) fun t5 ph6 =>
  (xo ph6 2 a0).bind fun _ =>
  xb (f_Layout_layTemplate F c a0 t3 t5 ph6) fun _ ph7 =>
  (xo ph7 2 a0).bind fun _ =>
  xb (f_Layout_layGroup F c a0 (nI 2) t3 ph7) fun t8 ph9 =>
  (xgI ph9 2 12 a0).bind fun t10 =>
  if t10 ≤ 0 then
    f_Layout_layData_63 F c a0 t8 ph9
  else
    xb (f_H_up F c t8 ((8 : Int64)) ph9) fun t11 ph12 =>
    (xpJ ph12 2 13 a0 t11).bind fun ph13 =>
    (xgJ ph13 2 13 a0).bind fun t14 =>
    (xgI ph13 2 12 a0).bind fun t15 =>
    f_Layout_layData_63 F c a0 (t14 + (((8 : Int64)) * t15.toInt64)) ph13
theorem r_Layout_layData {l : Launch} {g : px_G} {d F : Nat} {a0 : Nat} {ph : px_H} {r : Unit} {ph' : px_H} (h : f_Layout_layData F (px_ct g) a0 ph = some (r, ph')) : PW l g (d + 3) m_Layout_layData 0 [.ref a0, px_u, px_u, px_u, px_u, px_u] [] ph (px_qV r ph') := by
  unfold f_Layout_layData at h
  refine px_ld rfl rfl rfl rfl rfl ?_
  refine px_ic (k := 4) rfl rfl rfl ?_
  refine px_ld rfl rfl rfl rfl rfl ?_
  obtain ⟨t1, h0, h⟩ := xs_some h
  obtain ⟨fs, e1, e2⟩ := xgR_some h0
  refine px_get rfl e1 e2 rfl ?_
  refine px_ic (k := 2) rfl rfl rfl ?_
  obtain ⟨t2, h0, h⟩ := xs_some h
  obtain ⟨N, f, e1, e2, e3⟩ := xaJ_some h0
  subst e3
  refine px_lald rfl e1 rfl e2 rfl ?_
  obtain ⟨fs, h0, h⟩ := xs_some h
  have e1 := xo_some h0
  obtain ⟨t3, ph4, h0, h⟩ := xb_some h
  refine px_cV2 rfl rfl e1 rfl rfl rfl rfl rfl rfl rfl (r_Layout_layGroup h0 :) (fun _ _ q => nomatch q.2) (fun r ph' q => ?_)
  obtain ⟨rfl, q⟩ := q
  cases q
  refine px_st (lv' := [_, _, _, _, _, _]) rfl rfl rfl rfl rfl rfl rfl ?_
  refine px_ld rfl rfl rfl rfl rfl ?_
  refine px_ld rfl rfl rfl rfl rfl ?_
  refine px_ld rfl rfl rfl rfl rfl ?_
  refine px_ic (k := 5) rfl rfl rfl ?_
  refine px_ld rfl rfl rfl rfl rfl ?_
  obtain ⟨fs, h0, h⟩ := xs_some h
  have e1 := xo_some h0
  obtain ⟨t5, ph6, h0, h⟩ := xb_some h
  refine px_cV2 rfl rfl e1 rfl rfl rfl rfl rfl rfl rfl (r_Layout_layGroup h0 :) (fun _ _ q => nomatch q.2) (fun r ph' q => ?_)
  obtain ⟨rfl, q⟩ := q
  cases q
  obtain ⟨fs, h0, h⟩ := xs_some h
  have e1 := xo_some h0
  obtain ⟨u0, ph7, h0, h⟩ := xb_some h
  refine px_cV2 rfl rfl e1 rfl rfl rfl rfl rfl rfl rfl (r_Layout_layTemplate h0 :) (fun _ _ q => nomatch q.2) (fun r ph' q => ?_)
  obtain ⟨rfl, q⟩ := q
  cases q
  refine px_ld rfl rfl rfl rfl rfl ?_
  refine px_ic (k := 2) rfl rfl rfl ?_
  refine px_ld rfl rfl rfl rfl rfl ?_
  obtain ⟨fs, h0, h⟩ := xs_some h
  have e1 := xo_some h0
  obtain ⟨t8, ph9, h0, h⟩ := xb_some h
  refine px_cV2 rfl rfl e1 rfl rfl rfl rfl rfl rfl rfl (r_Layout_layGroup h0 :) (fun _ _ q => nomatch q.2) (fun r ph' q => ?_)
  obtain ⟨rfl, q⟩ := q
  cases q
  refine px_st (lv' := [_, _, _, _, _, _]) rfl rfl rfl rfl rfl rfl rfl ?_
  refine px_ld rfl rfl rfl rfl rfl ?_
  obtain ⟨t10, h0, h⟩ := xs_some h
  obtain ⟨fs, e1, e2⟩ := xgI_some h0
  refine px_get rfl e1 e2 rfl ?_
  refine px_ifle rfl (by decide) rfl (fun hc => ?_) (fun hc => ?_)
  · replace h := (if_pos hc).symm.trans h
    exact (r_Layout_layData_63 h :)
  · replace h := (if_neg hc).symm.trans h
    refine px_ld rfl rfl rfl rfl rfl ?_
    refine px_ld rfl rfl rfl rfl rfl ?_
    refine px_ldc2 rfl rfl rfl ?_
    obtain ⟨t11, ph12, h0, h⟩ := xb_some h
    refine px_cS2 rfl rfl rfl rfl rfl rfl rfl (r_H_up h0 :) (fun _ _ q => nomatch q.2) (fun r ph' q => ?_)
    obtain ⟨rfl, q⟩ := q
    cases q
    obtain ⟨ph13, h0, h⟩ := xs_some h
    obtain ⟨fs, e1, e2, e3⟩ := xpJ_some h0
    subst e3
    refine px_put rfl e1 e2 trivial rfl ?_
    refine px_ld rfl rfl rfl rfl rfl ?_
    obtain ⟨t14, h0, h⟩ := xs_some h
    obtain ⟨fs, e1, e2⟩ := xgJ_some h0
    refine px_get rfl e1 e2 rfl ?_
    refine px_ldc2 rfl rfl rfl ?_
    refine px_ld rfl rfl rfl rfl rfl ?_
    obtain ⟨t15, h0, h⟩ := xs_some h
    obtain ⟨fs, e1, e2⟩ := xgI_some h0
    refine px_get rfl e1 e2 rfl ?_
    refine px_alu rfl rfl rfl ?_
    refine px_alu rfl rfl rfl ?_
    refine px_alu rfl rfl rfl ?_
    refine px_st (lv' := [_, _, _, _, _, _]) rfl rfl rfl rfl rfl rfl rfl ?_
    exact (r_Layout_layData_63 h :)
def f_Layout_layText_237 (F : Nat) (c : px_CT) (a0 : Nat) (a1 : Int64) (ph : px_H) : Option (Unit × px_H) :=
  (xpJ ph 2 18 a0 a1).bind fun ph1 =>
  some ((), ph1)
theorem r_Layout_layText_237 {l : Launch} {g : px_G} {d F : Nat} {a0 : Nat} {a1 : Int64} {ph : px_H} {r : Unit} {ph' : px_H} (h : f_Layout_layText_237 F (px_ct g) a0 a1 ph = some (r, ph')) : PW l g (d + 4) m_Layout_layText 237 [.ref a0, .long a1, px_u, px_u, px_u, px_u, px_u, px_u] [] ph (px_qV r ph') := by
  unfold f_Layout_layText_237 at h
  refine px_ld rfl rfl rfl rfl rfl ?_
  refine px_ld rfl rfl rfl rfl rfl ?_
  obtain ⟨ph1, h0, h⟩ := xs_some h
  obtain ⟨fs, e1, e2, e3⟩ := xpJ_some h0
  subst e3
  refine px_put rfl e1 e2 trivial rfl ?_
  cases h
  exact px_vret rfl rfl rfl ⟨rfl, rfl⟩
def f_Layout_layText_231 (F : Nat) (c : px_CT) (k34 : Nat → Int64 → Int64 → Int32 → px_H → Option (Unit × px_H)) (a0 : Nat) (a1 : Int64) (a3 : Int64) (a5 : Int32) (ph : px_H) : Option (Unit × px_H) :=
  k34 a0 a1 a3 (a5 + nI 1) ph
theorem r_Layout_layText_231 {l : Launch} {g : px_G} {d F : Nat} {k34 : Nat → Int64 → Int64 → Int32 → px_H → Option (Unit × px_H)} (hk34 : ∀ {a0 : Nat} {a1 : Int64} {a3 : Int64} {a5 : Int32} {ph : px_H} {r : Unit} {ph' : px_H}, k34 a0 a1 a3 a5 ph = some (r, ph') → PW l g (d + 4) m_Layout_layText 34 [.ref a0, .long a1, px_u, .long a3, px_u, .int a5, px_u, px_u] [] ph (px_qV r ph')) {a0 : Nat} {a1 : Int64} {a3 : Int64} {a5 : Int32} {ph : px_H} {r : Unit} {ph' : px_H} (h : f_Layout_layText_231 F (px_ct g) k34 a0 a1 a3 a5 ph = some (r, ph')) : PW l g (d + 4) m_Layout_layText 231 [.ref a0, .long a1, px_u, .long a3, px_u, .int a5, px_u, px_u] [] ph (px_qV r ph') := by
  unfold f_Layout_layText_231 at h
  refine px_iinc (lv' := [_, _, _, _, _, _, _, _]) rfl rfl rfl rfl rfl rfl ?_
  refine px_goto rfl (by decide) rfl ?_
  exact (hk34 h :)
def f_Layout_layText_189 (F : Nat) (c : px_CT) (k34 : Nat → Int64 → Int64 → Int32 → px_H → Option (Unit × px_H)) (a0 : Nat) (a1 : Int64) (a3 : Int64) (a5 : Int32) (ph : px_H) : Option (Unit × px_H) :=
  (xgR ph 2 4 a0).bind fun t1 =>
  (xaI ph 3 t1 a5).bind fun t2 =>
  if t2 = 0 then
    f_Layout_layText_231 F c k34 a0 a1 a3 a5 ph
  else
    (xgR ph 2 5 a0).bind fun t3 =>
    (xaJ ph 2 t3 a5).bind fun t4 =>
    (xgR ph 2 7 a0).bind fun t5 =>
    (xaJ ph 2 t5 a5).bind fun t6 =>
    (xgR ph 2 6 a0).bind fun t7 =>
    (xaJ ph 2 t7 a5).bind fun t8 =>
    (xgR ph 2 8 a0).bind fun t9 =>
    (xaJ ph 2 t9 a5).bind fun t10 =>
    f_Layout_layText_231 F c k34 a0 (t4 + t6) (t8 + t10) a5 ph
theorem r_Layout_layText_189 {l : Launch} {g : px_G} {d F : Nat} {k34 : Nat → Int64 → Int64 → Int32 → px_H → Option (Unit × px_H)} (hk34 : ∀ {a0 : Nat} {a1 : Int64} {a3 : Int64} {a5 : Int32} {ph : px_H} {r : Unit} {ph' : px_H}, k34 a0 a1 a3 a5 ph = some (r, ph') → PW l g (d + 4) m_Layout_layText 34 [.ref a0, .long a1, px_u, .long a3, px_u, .int a5, px_u, px_u] [] ph (px_qV r ph')) {a0 : Nat} {a1 : Int64} {a3 : Int64} {a5 : Int32} {ph : px_H} {r : Unit} {ph' : px_H} (h : f_Layout_layText_189 F (px_ct g) k34 a0 a1 a3 a5 ph = some (r, ph')) : PW l g (d + 4) m_Layout_layText 189 [.ref a0, .long a1, px_u, .long a3, px_u, .int a5, px_u, px_u] [] ph (px_qV r ph') := by
  unfold f_Layout_layText_189 at h
  refine px_ld rfl rfl rfl rfl rfl ?_
  obtain ⟨t1, h0, h⟩ := xs_some h
  obtain ⟨fs, e1, e2⟩ := xgR_some h0
  refine px_get rfl e1 e2 rfl ?_
  refine px_ld rfl rfl rfl rfl rfl ?_
  obtain ⟨t2, h0, h⟩ := xs_some h
  obtain ⟨N, f, e1, e2, e3⟩ := xaI_some h0
  subst e3
  refine px_zald rfl e1 rfl e2 rfl ?_
  refine px_ifeq rfl (by decide) rfl (fun hc => ?_) (fun hc => ?_)
  · replace h := (if_pos hc).symm.trans h
    exact (r_Layout_layText_231 @hk34 h :)
  · replace h := (if_neg hc).symm.trans h
    refine px_ld rfl rfl rfl rfl rfl ?_
    obtain ⟨t3, h0, h⟩ := xs_some h
    obtain ⟨fs, e1, e2⟩ := xgR_some h0
    refine px_get rfl e1 e2 rfl ?_
    refine px_ld rfl rfl rfl rfl rfl ?_
    obtain ⟨t4, h0, h⟩ := xs_some h
    obtain ⟨N, f, e1, e2, e3⟩ := xaJ_some h0
    subst e3
    refine px_lald rfl e1 rfl e2 rfl ?_
    refine px_ld rfl rfl rfl rfl rfl ?_
    obtain ⟨t5, h0, h⟩ := xs_some h
    obtain ⟨fs, e1, e2⟩ := xgR_some h0
    refine px_get rfl e1 e2 rfl ?_
    refine px_ld rfl rfl rfl rfl rfl ?_
    obtain ⟨t6, h0, h⟩ := xs_some h
    obtain ⟨N, f, e1, e2, e3⟩ := xaJ_some h0
    subst e3
    refine px_lald rfl e1 rfl e2 rfl ?_
    refine px_alu rfl rfl rfl ?_
    refine px_st (lv' := [_, _, _, _, _, _, _, _]) rfl rfl rfl rfl rfl rfl rfl ?_
    refine px_ld rfl rfl rfl rfl rfl ?_
    obtain ⟨t7, h0, h⟩ := xs_some h
    obtain ⟨fs, e1, e2⟩ := xgR_some h0
    refine px_get rfl e1 e2 rfl ?_
    refine px_ld rfl rfl rfl rfl rfl ?_
    obtain ⟨t8, h0, h⟩ := xs_some h
    obtain ⟨N, f, e1, e2, e3⟩ := xaJ_some h0
    subst e3
    refine px_lald rfl e1 rfl e2 rfl ?_
    refine px_ld rfl rfl rfl rfl rfl ?_
    obtain ⟨t9, h0, h⟩ := xs_some h
    obtain ⟨fs, e1, e2⟩ := xgR_some h0
    refine px_get rfl e1 e2 rfl ?_
    refine px_ld rfl rfl rfl rfl rfl ?_
    obtain ⟨t10, h0, h⟩ := xs_some h
    obtain ⟨N, f, e1, e2, e3⟩ := xaJ_some h0
    subst e3
    refine px_lald rfl e1 rfl e2 rfl ?_
    refine px_alu rfl rfl rfl ?_
    refine px_st (lv' := [_, _, _, _, _, _, _, _]) rfl rfl rfl rfl rfl rfl rfl ?_
    exact (r_Layout_layText_231 @hk34 h :)
def f_Layout_layText_158 (F : Nat) (c : px_CT) (k34 : Nat → Int64 → Int64 → Int32 → px_H → Option (Unit × px_H)) (a0 : Nat) (a1 : Int64) (a3 : Int64) (a5 : Int32) (a6 : Int64) (ph : px_H) : Option (Unit × px_H) :=
  (xgR ph 2 7 a0).bind fun t1 =>
  (xgR ph 2 6 a0).bind fun t2 =>
  (xaJ ph 2 t2 a5).bind fun t3 =>
  (xsJ ph 2 t1 a5 (a6 - t3)).bind fun ph4 =>
  (xgR ph4 2 8 a0).bind fun t5 =>
  (xgR ph4 2 7 a0).bind fun t6 =>
  (xaJ ph4 2 t6 a5).bind fun t7 =>
  (xsJ ph4 2 t5 a5 t7).bind fun ph8 =>
  f_Layout_layText_189 F c k34 a0 a1 a3 a5 ph8
theorem r_Layout_layText_158 {l : Launch} {g : px_G} {d F : Nat} {k34 : Nat → Int64 → Int64 → Int32 → px_H → Option (Unit × px_H)} (hk34 : ∀ {a0 : Nat} {a1 : Int64} {a3 : Int64} {a5 : Int32} {ph : px_H} {r : Unit} {ph' : px_H}, k34 a0 a1 a3 a5 ph = some (r, ph') → PW l g (d + 4) m_Layout_layText 34 [.ref a0, .long a1, px_u, .long a3, px_u, .int a5, px_u, px_u] [] ph (px_qV r ph')) {a0 : Nat} {a1 : Int64} {a3 : Int64} {a5 : Int32} {a6 : Int64} {ph : px_H} {r : Unit} {ph' : px_H} (h : f_Layout_layText_158 F (px_ct g) k34 a0 a1 a3 a5 a6 ph = some (r, ph')) : PW l g (d + 4) m_Layout_layText 158 [.ref a0, .long a1, px_u, .long a3, px_u, .int a5, .long a6, px_u] [] ph (px_qV r ph') := by
  unfold f_Layout_layText_158 at h
  refine px_ld rfl rfl rfl rfl rfl ?_
  obtain ⟨t1, h0, h⟩ := xs_some h
  obtain ⟨fs, e1, e2⟩ := xgR_some h0
  refine px_get rfl e1 e2 rfl ?_
  refine px_ld rfl rfl rfl rfl rfl ?_
  refine px_ld rfl rfl rfl rfl rfl ?_
  refine px_ld rfl rfl rfl rfl rfl ?_
  obtain ⟨t2, h0, h⟩ := xs_some h
  obtain ⟨fs, e1, e2⟩ := xgR_some h0
  refine px_get rfl e1 e2 rfl ?_
  refine px_ld rfl rfl rfl rfl rfl ?_
  obtain ⟨t3, h0, h⟩ := xs_some h
  obtain ⟨N, f, e1, e2, e3⟩ := xaJ_some h0
  subst e3
  refine px_lald rfl e1 rfl e2 rfl ?_
  refine px_alu rfl rfl rfl ?_
  obtain ⟨ph4, h0, h⟩ := xs_some h
  obtain ⟨N, f, e1, e2, e3⟩ := xsJ_some h0
  subst e3
  refine px_last rfl e1 rfl e2 rfl ?_
  refine px_ld rfl rfl rfl rfl rfl ?_
  obtain ⟨t5, h0, h⟩ := xs_some h
  obtain ⟨fs, e1, e2⟩ := xgR_some h0
  refine px_get rfl e1 e2 rfl ?_
  refine px_ld rfl rfl rfl rfl rfl ?_
  refine px_ld rfl rfl rfl rfl rfl ?_
  obtain ⟨t6, h0, h⟩ := xs_some h
  obtain ⟨fs, e1, e2⟩ := xgR_some h0
  refine px_get rfl e1 e2 rfl ?_
  refine px_ld rfl rfl rfl rfl rfl ?_
  obtain ⟨t7, h0, h⟩ := xs_some h
  obtain ⟨N, f, e1, e2, e3⟩ := xaJ_some h0
  subst e3
  refine px_lald rfl e1 rfl e2 rfl ?_
  obtain ⟨ph8, h0, h⟩ := xs_some h
  obtain ⟨N, f, e1, e2, e3⟩ := xsJ_some h0
  subst e3
  refine px_last rfl e1 rfl e2 rfl ?_
  refine px_forget (n := 6) (lv' := [_, _, _, _, _, _, _, _]) rfl ?_
  exact (r_Layout_layText_189 @hk34 h :)
def f_Layout_layText_92 (F : Nat) (c : px_CT) (k34 : Nat → Int64 → Int64 → Int32 → px_H → Option (Unit × px_H)) (a0 : Nat) (a1 : Int64) (a3 : Int64) (a5 : Int32) (s0 : Nat) (s1 : Int32) (s2 : Int64) (s3 : Int64) (ph : px_H) : Option (Unit × px_H) :=
  (xsJ ph 2 s0 s1 (s2 + s3)).bind fun ph1 =>
  if a5 = (nI 2) then
    (xo ph1 2 a0).bind fun _ =>
    xb (f_Layout_layData F c a0 ph1) fun _ ph11 =>
    f_Layout_layText_189 F c k34 a0 a1 a3 a5 ph11
  else
    (xgR ph1 2 6 a0).bind fun t2 =>
    (xaJ ph1 2 t2 a5).bind fun t3 =>
    (xo ph1 2 a0).bind fun _ =>
    xb (f_Layout_layGroup F c a0 a5 t3 ph1) fun t4 ph5 =>
    if a5 = 0 then
      (xpJ ph5 2 14 a0 t4).bind fun ph10 =>
      f_Layout_layText_158 F c k34 a0 a1 a3 a5 t4 ph10
    else
      (xgR ph5 2 1 a0).bind fun t6 =>
      (xpJ ph5 9 5 t6 t4).bind fun ph7 =>
      (xgR ph7 2 1 a0).bind fun t8 =>
      (xgI ph7 9 4 t8).bind fun t9 =>
      f_Layout_layText_158 F c k34 a0 a1 a3 a5 (t4 + t9.toInt64) ph7
theorem r_Layout_layText_92 {l : Launch} {g : px_G} {d F : Nat} {k34 : Nat → Int64 → Int64 → Int32 → px_H → Option (Unit × px_H)} (hk34 : ∀ {a0 : Nat} {a1 : Int64} {a3 : Int64} {a5 : Int32} {ph : px_H} {r : Unit} {ph' : px_H}, k34 a0 a1 a3 a5 ph = some (r, ph') → PW l g (d + 4) m_Layout_layText 34 [.ref a0, .long a1, px_u, .long a3, px_u, .int a5, px_u, px_u] [] ph (px_qV r ph')) {a0 : Nat} {a1 : Int64} {a3 : Int64} {a5 : Int32} {s0 : Nat} {s1 : Int32} {s2 : Int64} {s3 : Int64} {ph : px_H} {r : Unit} {ph' : px_H} (h : f_Layout_layText_92 F (px_ct g) k34 a0 a1 a3 a5 s0 s1 s2 s3 ph = some (r, ph')) : PW l g (d + 4) m_Layout_layText 92 [.ref a0, .long a1, px_u, .long a3, px_u, .int a5, px_u, px_u] [.long s3, .long s2, .int s1, .ref s0] ph (px_qV r ph') := by
  unfold f_Layout_layText_92 at h
  refine px_alu rfl rfl rfl ?_
  obtain ⟨ph1, h0, h⟩ := xs_some h
  obtain ⟨N, f, e1, e2, e3⟩ := xsJ_some h0
  subst e3
  refine px_last rfl e1 rfl e2 rfl ?_
  refine px_ld rfl rfl rfl rfl rfl ?_
  refine px_ic (k := 2) rfl rfl rfl ?_
  refine px_icne rfl (by decide) rfl (fun hc => ?_) (fun hc => ?_)
  · replace h := (if_neg hc).symm.trans h
    refine px_ld rfl rfl rfl rfl rfl ?_
    refine px_ld rfl rfl rfl rfl rfl ?_
    refine px_ld rfl rfl rfl rfl rfl ?_
    obtain ⟨t2, h0, h⟩ := xs_some h
    obtain ⟨fs, e1, e2⟩ := xgR_some h0
    refine px_get rfl e1 e2 rfl ?_
    refine px_ld rfl rfl rfl rfl rfl ?_
    obtain ⟨t3, h0, h⟩ := xs_some h
    obtain ⟨N, f, e1, e2, e3⟩ := xaJ_some h0
    subst e3
    refine px_lald rfl e1 rfl e2 rfl ?_
    obtain ⟨fs, h0, h⟩ := xs_some h
    have e1 := xo_some h0
    obtain ⟨t4, ph5, h0, h⟩ := xb_some h
    refine px_cV2 rfl rfl e1 rfl rfl rfl rfl rfl rfl rfl (r_Layout_layGroup h0 :) (fun _ _ q => nomatch q.2) (fun r ph' q => ?_)
    obtain ⟨rfl, q⟩ := q
    cases q
    refine px_st (lv' := [_, _, _, _, _, _, _, _]) rfl rfl rfl rfl rfl rfl rfl ?_
    refine px_ld rfl rfl rfl rfl rfl ?_
    refine px_ifne rfl (by decide) rfl (fun hc => ?_) (fun hc => ?_)
    · replace h := (if_neg hc).symm.trans h
      refine px_ld rfl rfl rfl rfl rfl ?_
      obtain ⟨t6, h0, h⟩ := xs_some h
      obtain ⟨fs, e1, e2⟩ := xgR_some h0
      refine px_get rfl e1 e2 rfl ?_
      refine px_ld rfl rfl rfl rfl rfl ?_
      obtain ⟨ph7, h0, h⟩ := xs_some h
      obtain ⟨fs, e1, e2, e3⟩ := xpJ_some h0
      subst e3
      refine px_put rfl e1 e2 trivial rfl ?_
      refine px_ld rfl rfl rfl rfl rfl ?_
      refine px_ld rfl rfl rfl rfl rfl ?_
      obtain ⟨t8, h0, h⟩ := xs_some h
      obtain ⟨fs, e1, e2⟩ := xgR_some h0
      refine px_get rfl e1 e2 rfl ?_
      obtain ⟨t9, h0, h⟩ := xs_some h
      obtain ⟨fs, e1, e2⟩ := xgI_some h0
      refine px_get rfl e1 e2 rfl ?_
      refine px_alu rfl rfl rfl ?_
      refine px_alu rfl rfl rfl ?_
      refine px_st (lv' := [_, _, _, _, _, _, _, _]) rfl rfl rfl rfl rfl rfl rfl ?_
      exact (r_Layout_layText_158 @hk34 h :)
    · replace h := (if_pos hc).symm.trans h
      refine px_ld rfl rfl rfl rfl rfl ?_
      refine px_ld rfl rfl rfl rfl rfl ?_
      obtain ⟨ph10, h0, h⟩ := xs_some h
      obtain ⟨fs, e1, e2, e3⟩ := xpJ_some h0
      subst e3
      refine px_put rfl e1 e2 trivial rfl ?_
      refine px_goto rfl (by decide) rfl ?_
      exact (r_Layout_layText_158 @hk34 h :)
  · replace h := (if_pos hc).symm.trans h
    refine px_ld rfl rfl rfl rfl rfl ?_
    obtain ⟨fs, h0, h⟩ := xs_some h
    have e1 := xo_some h0
    obtain ⟨u0, ph11, h0, h⟩ := xb_some h
    refine px_cV0 rfl rfl e1 rfl rfl rfl rfl rfl rfl rfl (r_Layout_layData h0 :) (fun _ _ q => nomatch q.2) (fun r ph' q => ?_)
    obtain ⟨rfl, q⟩ := q
    cases q
    refine px_goto rfl (by decide) rfl ?_
    exact (r_Layout_layText_189 @hk34 h :)
def f_Layout_layText_34 (F : Nat) (c : px_CT) : Nat → Nat → Int64 → Int64 → Int32 → px_H → Option (Unit × px_H)
  | 0, _, _, _, _, _ => none
  | n + 1, a0, a1, a3, a5, ph =>
    if (nI 3) ≤ a5 then
      f_Layout_layText_237 F c a0 a1 ph
    else
      (xgR ph 2 5 a0).bind fun t1 =>
      xb (f_H_up F c a1 ((16 : Int64)) ph) fun t2 ph3 =>
      (xsJ ph3 2 t1 a5 t2).bind fun ph4 =>
      (xgR ph4 2 6 a0).bind fun t5 =>
      xb (f_H_up F c a3 ((4096 : Int64)) ph4) fun t6 ph7 =>
      (xgR ph7 2 4 a0).bind fun t8 =>
      (xaI ph7 3 t8 a5).bind fun t9 =>
      if t9 = 0 then
        f_Layout_layText_92 F c (f_Layout_layText_34 F c n) a0 a1 a3 a5 t5 a5 t6 (lN 0) ph7
      else
        (xgR ph7 2 5 a0).bind fun t10 =>
        (xaJ ph7 2 t10 a5).bind fun t11 =>
        f_Layout_layText_92 F c (f_Layout_layText_34 F c n) a0 a1 a3 a5 t5 a5 t6 (t11 &&& ((4095 : Int64))) ph7
theorem r_Layout_layText_34 {l : Launch} {g : px_G} {d F : Nat} : ∀ (n : Nat) {a0 : Nat} {a1 : Int64} {a3 : Int64} {a5 : Int32} {ph : px_H} {r : Unit} {ph' : px_H}, f_Layout_layText_34 F (px_ct g) n a0 a1 a3 a5 ph = some (r, ph') → PW l g (d + 4) m_Layout_layText 34 [.ref a0, .long a1, px_u, .long a3, px_u, .int a5, px_u, px_u] [] ph (px_qV r ph') := by
  intro n
  induction n with
  | zero => intro _ _ _ _ _ _ _ h; cases h
  | succ n ih =>
    intro a0 a1 a3 a5 ph r ph' h
    unfold f_Layout_layText_34 at h
    refine px_ld rfl rfl rfl rfl rfl ?_
    refine px_ic (k := 3) rfl rfl rfl ?_
    refine px_icge rfl (by decide) rfl (fun hc => ?_) (fun hc => ?_)
    · replace h := (if_pos hc).symm.trans h
      refine px_forget (n := 3) (lv' := [_, _, _, _, _, _, _, _]) rfl ?_
      refine px_forget (n := 5) (lv' := [_, _, _, _, _, _, _, _]) rfl ?_
      exact (r_Layout_layText_237 h :)
    · replace h := (if_neg hc).symm.trans h
      refine px_ld rfl rfl rfl rfl rfl ?_
      obtain ⟨t1, h0, h⟩ := xs_some h
      obtain ⟨fs, e1, e2⟩ := xgR_some h0
      refine px_get rfl e1 e2 rfl ?_
      refine px_ld rfl rfl rfl rfl rfl ?_
      refine px_ld rfl rfl rfl rfl rfl ?_
      refine px_ldc2 rfl rfl rfl ?_
      obtain ⟨t2, ph3, h0, h⟩ := xb_some h
      refine px_cS2 rfl rfl rfl rfl rfl rfl rfl (r_H_up h0 :) (fun _ _ q => nomatch q.2) (fun r ph' q => ?_)
      obtain ⟨rfl, q⟩ := q
      cases q
      obtain ⟨ph4, h0, h⟩ := xs_some h
      obtain ⟨N, f, e1, e2, e3⟩ := xsJ_some h0
      subst e3
      refine px_last rfl e1 rfl e2 rfl ?_
      refine px_ld rfl rfl rfl rfl rfl ?_
      obtain ⟨t5, h0, h⟩ := xs_some h
      obtain ⟨fs, e1, e2⟩ := xgR_some h0
      refine px_get rfl e1 e2 rfl ?_
      refine px_ld rfl rfl rfl rfl rfl ?_
      refine px_ld rfl rfl rfl rfl rfl ?_
      refine px_ldc2 rfl rfl rfl ?_
      obtain ⟨t6, ph7, h0, h⟩ := xb_some h
      refine px_cS2 rfl rfl rfl rfl rfl rfl rfl (r_H_up h0 :) (fun _ _ q => nomatch q.2) (fun r ph' q => ?_)
      obtain ⟨rfl, q⟩ := q
      cases q
      refine px_ld rfl rfl rfl rfl rfl ?_
      obtain ⟨t8, h0, h⟩ := xs_some h
      obtain ⟨fs, e1, e2⟩ := xgR_some h0
      refine px_get rfl e1 e2 rfl ?_
      refine px_ld rfl rfl rfl rfl rfl ?_
      obtain ⟨t9, h0, h⟩ := xs_some h
      obtain ⟨N, f, e1, e2, e3⟩ := xaI_some h0
      subst e3
      refine px_zald rfl e1 rfl e2 rfl ?_
      refine px_ifeq rfl (by decide) rfl (fun hc => ?_) (fun hc => ?_)
      · replace h := (if_pos hc).symm.trans h
        refine px_alu rfl rfl rfl ?_
        exact (r_Layout_layText_92 @ih h :)
      · replace h := (if_neg hc).symm.trans h
        refine px_ld rfl rfl rfl rfl rfl ?_
        obtain ⟨t10, h0, h⟩ := xs_some h
        obtain ⟨fs, e1, e2⟩ := xgR_some h0
        refine px_get rfl e1 e2 rfl ?_
        refine px_ld rfl rfl rfl rfl rfl ?_
        obtain ⟨t11, h0, h⟩ := xs_some h
        obtain ⟨N, f, e1, e2, e3⟩ := xaJ_some h0
        subst e3
        refine px_lald rfl e1 rfl e2 rfl ?_
        refine px_ldc2 rfl rfl rfl ?_
        refine px_alu rfl rfl rfl ?_
        refine px_goto rfl (by decide) rfl ?_
        exact (r_Layout_layText_92 @ih h :)
def f_Layout_layText_22 (F : Nat) (c : px_CT) (a0 : Nat) (s0 : Int32) (s1 : Int32) (s2 : Int32) (s3 : Int32) (ph : px_H) : Option (Unit × px_H) :=
  f_Layout_layText_34 F c F a0 ((s0 + (s1 * (s2 + s3))).toInt64) ((4194304 : Int64)) (nI 0) ph
theorem r_Layout_layText_22 {l : Launch} {g : px_G} {d F : Nat} {a0 : Nat} {s0 : Int32} {s1 : Int32} {s2 : Int32} {s3 : Int32} {ph : px_H} {r : Unit} {ph' : px_H} (h : f_Layout_layText_22 F (px_ct g) a0 s0 s1 s2 s3 ph = some (r, ph')) : PW l g (d + 4) m_Layout_layText 22 [.ref a0, px_u, px_u, px_u, px_u, px_u, px_u, px_u] [.int s3, .int s2, .int s1, .int s0] ph (px_qV r ph') := by
  unfold f_Layout_layText_22 at h
  refine px_alu rfl rfl rfl ?_
  refine px_alu rfl rfl rfl ?_
  refine px_alu rfl rfl rfl ?_
  refine px_alu rfl rfl rfl ?_
  refine px_st (lv' := [_, _, _, _, _, _, _, _]) rfl rfl rfl rfl rfl rfl rfl ?_
  refine px_ldc2 rfl rfl rfl ?_
  refine px_st (lv' := [_, _, _, _, _, _, _, _]) rfl rfl rfl rfl rfl rfl rfl ?_
  refine px_ic (k := 0) rfl rfl rfl ?_
  refine px_st (lv' := [_, _, _, _, _, _, _, _]) rfl rfl rfl rfl rfl rfl rfl ?_
  exact (r_Layout_layText_34 _ h :)
def f_Layout_layText (F : Nat) (c : px_CT) (a0 : Nat) (ph : px_H) : Option (Unit × px_H) :=
  (xo ph 2 a0).bind fun _ =>
  xb (f_Layout_countSegments F c a0 ph) fun t1 ph2 =>
  (xgR ph2 2 4 a0).bind fun t3 =>
  (xaI ph2 3 t3 (nI 3)).bind fun t4 =>
  if t4 = 0 then
    f_Layout_layText_22 F c a0 (nI 64) (nI 56) t1 (nI 0) ph2
  else
    f_Layout_layText_22 F c a0 (nI 64) (nI 56) t1 (nI 1) ph2
theorem r_Layout_layText {l : Launch} {g : px_G} {d F : Nat} {a0 : Nat} {ph : px_H} {r : Unit} {ph' : px_H} (h : f_Layout_layText F (px_ct g) a0 ph = some (r, ph')) : PW l g (d + 4) m_Layout_layText 0 [.ref a0, px_u, px_u, px_u, px_u, px_u, px_u, px_u] [] ph (px_qV r ph') := by
  unfold f_Layout_layText at h
  refine px_ic (k := 64) rfl rfl rfl ?_
  refine px_ic (k := 56) rfl rfl rfl ?_
  refine px_ld rfl rfl rfl rfl rfl ?_
  obtain ⟨fs, h0, h⟩ := xs_some h
  have e1 := xo_some h0
  obtain ⟨t1, ph2, h0, h⟩ := xb_some h
  refine px_cV0 rfl rfl e1 rfl rfl rfl rfl rfl rfl rfl (r_Layout_countSegments h0 :) (fun _ _ q => nomatch q.2) (fun r ph' q => ?_)
  obtain ⟨rfl, q⟩ := q
  cases q
  refine px_ld rfl rfl rfl rfl rfl ?_
  obtain ⟨t3, h0, h⟩ := xs_some h
  obtain ⟨fs, e1, e2⟩ := xgR_some h0
  refine px_get rfl e1 e2 rfl ?_
  refine px_ic (k := 3) rfl rfl rfl ?_
  obtain ⟨t4, h0, h⟩ := xs_some h
  obtain ⟨N, f, e1, e2, e3⟩ := xaI_some h0
  subst e3
  refine px_zald rfl e1 rfl e2 rfl ?_
  refine px_ifeq rfl (by decide) rfl (fun hc => ?_) (fun hc => ?_)
  · replace h := (if_pos hc).symm.trans h
    refine px_ic (k := 0) rfl rfl rfl ?_
    exact (r_Layout_layText_22 h :)
  · replace h := (if_neg hc).symm.trans h
    refine px_ic (k := 1) rfl rfl rfl ?_
    refine px_goto rfl (by decide) rfl ?_
    exact (r_Layout_layText_22 h :)
def f_Pool_addressIn_213 (F : Nat) (c : px_CT) (a0 : Nat) (ph : px_H) : Option (Int64 × px_H) :=
  (xgJ ph 9 5 a0).bind fun t1 =>
  (xgI ph 9 4 a0).bind fun t2 =>
  some (t1 + t2.toInt64, ph)
theorem r_Pool_addressIn_213 {l : Launch} {g : px_G} {d F : Nat} {a0 : Nat} {ph : px_H} {r : Int64} {ph' : px_H} (h : f_Pool_addressIn_213 F (px_ct g) a0 ph = some (r, ph')) : PW l g (d + 1) m_Pool_addressIn 213 [.ref a0, px_u, px_u, px_u, px_u, px_u, px_u, px_u, px_u, px_u, px_u] [] ph (px_qJ r ph') := by
  unfold f_Pool_addressIn_213 at h
  refine px_ld rfl rfl rfl rfl rfl ?_
  obtain ⟨t1, h0, h⟩ := xs_some h
  obtain ⟨fs, e1, e2⟩ := xgJ_some h0
  refine px_get rfl e1 e2 rfl ?_
  refine px_ld rfl rfl rfl rfl rfl ?_
  obtain ⟨t2, h0, h⟩ := xs_some h
  obtain ⟨fs, e1, e2⟩ := xgI_some h0
  refine px_get rfl e1 e2 rfl ?_
  refine px_alu rfl rfl rfl ?_
  refine px_alu rfl rfl rfl ?_
  cases h
  exact px_lret rfl rfl rfl ⟨rfl, rfl⟩
def f_Pool_addressIn_195 (F : Nat) (c : px_CT) (a4 : Int32) (a6 : Int32) (a8 : Int64) (ph : px_H) : Option (Int64 × px_H) :=
  some (a8 - (((a6 + (nI 1)) - a4).toInt64), ph)
theorem r_Pool_addressIn_195 {l : Launch} {g : px_G} {d F : Nat} {a4 : Int32} {a6 : Int32} {a8 : Int64} {ph : px_H} {r : Int64} {ph' : px_H} (h : f_Pool_addressIn_195 F (px_ct g) a4 a6 a8 ph = some (r, ph')) : PW l g (d + 1) m_Pool_addressIn 195 [px_u, px_u, px_u, px_u, .int a4, px_u, .int a6, px_u, .long a8, px_u, px_u] [] ph (px_qJ r ph') := by
  unfold f_Pool_addressIn_195 at h
  refine px_ld rfl rfl rfl rfl rfl ?_
  refine px_ld rfl rfl rfl rfl rfl ?_
  refine px_ic (k := 1) rfl rfl rfl ?_
  refine px_alu rfl rfl rfl ?_
  refine px_ld rfl rfl rfl rfl rfl ?_
  refine px_alu rfl rfl rfl ?_
  refine px_alu rfl rfl rfl ?_
  refine px_alu rfl rfl rfl ?_
  cases h
  exact px_lret rfl rfl rfl ⟨rfl, rfl⟩
def f_Pool_addressIn_148 (F : Nat) (c : px_CT) : Nat → Nat → Int32 → Int32 → Int32 → Int32 → Int64 → Int32 → px_H → Option (Int64 × px_H)
  | 0, _, _, _, _, _, _, _, _ => none
  | n + 1, a0, a4, a5, a6, a7, a8, a10, ph =>
    (xgI ph 9 3 a0).bind fun t1 =>
    if t1 ≤ a10 then
      f_Pool_addressIn_213 F c a0 ph
    else
      (xgR ph 9 2 a0).bind fun t2 =>
      (xaI ph 1 t2 a10).bind fun t3 =>
      (xgR ph 9 1 a0).bind fun t4 =>
      (xaI ph 1 t4 a10).bind fun t5 =>
      (xgR ph 9 2 a0).bind fun t6 =>
      (xaI ph 1 t6 a10).bind fun t7 =>
      (xo ph 9 a0).bind fun _ =>
      xb (f_Pool_isEnd F c a0 a5 a7 t5 t7 ph) fun t8 ph9 =>
      if t8 = 0 then
        f_Pool_addressIn_148 F c n a0 a4 a5 a6 a7 (a8 + t3.toInt64) (a10 + nI 1) ph9
      else
        f_Pool_addressIn_195 F c a4 a6 (a8 + t3.toInt64) ph9
theorem r_Pool_addressIn_148 {l : Launch} {g : px_G} {d F : Nat} : ∀ (n : Nat) {a0 : Nat} {a4 : Int32} {a5 : Int32} {a6 : Int32} {a7 : Int32} {a8 : Int64} {a10 : Int32} {ph : px_H} {r : Int64} {ph' : px_H}, f_Pool_addressIn_148 F (px_ct g) n a0 a4 a5 a6 a7 a8 a10 ph = some (r, ph') → PW l g (d + 1) m_Pool_addressIn 148 [.ref a0, px_u, px_u, px_u, .int a4, .int a5, .int a6, .int a7, .long a8, px_u, .int a10] [] ph (px_qJ r ph') := by
  intro n
  induction n with
  | zero => intro _ _ _ _ _ _ _ _ _ _ h; cases h
  | succ n ih =>
    intro a0 a4 a5 a6 a7 a8 a10 ph r ph' h
    unfold f_Pool_addressIn_148 at h
    refine px_ld rfl rfl rfl rfl rfl ?_
    refine px_ld rfl rfl rfl rfl rfl ?_
    obtain ⟨t1, h0, h⟩ := xs_some h
    obtain ⟨fs, e1, e2⟩ := xgI_some h0
    refine px_get rfl e1 e2 rfl ?_
    refine px_icge rfl (by decide) rfl (fun hc => ?_) (fun hc => ?_)
    · replace h := (if_pos hc).symm.trans h
      refine px_forget (n := 4) (lv' := [_, _, _, _, _, _, _, _, _, _, _]) rfl ?_
      refine px_forget (n := 5) (lv' := [_, _, _, _, _, _, _, _, _, _, _]) rfl ?_
      refine px_forget (n := 6) (lv' := [_, _, _, _, _, _, _, _, _, _, _]) rfl ?_
      refine px_forget (n := 7) (lv' := [_, _, _, _, _, _, _, _, _, _, _]) rfl ?_
      refine px_forget (n := 8) (lv' := [_, _, _, _, _, _, _, _, _, _, _]) rfl ?_
      refine px_forget (n := 10) (lv' := [_, _, _, _, _, _, _, _, _, _, _]) rfl ?_
      exact (r_Pool_addressIn_213 h :)
    · replace h := (if_neg hc).symm.trans h
      refine px_ld rfl rfl rfl rfl rfl ?_
      refine px_ld rfl rfl rfl rfl rfl ?_
      obtain ⟨t2, h0, h⟩ := xs_some h
      obtain ⟨fs, e1, e2⟩ := xgR_some h0
      refine px_get rfl e1 e2 rfl ?_
      refine px_ld rfl rfl rfl rfl rfl ?_
      obtain ⟨t3, h0, h⟩ := xs_some h
      obtain ⟨N, f, e1, e2, e3⟩ := xaI_some h0
      subst e3
      refine px_iald rfl e1 rfl e2 rfl ?_
      refine px_alu rfl rfl rfl ?_
      refine px_alu rfl rfl rfl ?_
      refine px_st (lv' := [_, _, _, _, _, _, _, _, _, _, _]) rfl rfl rfl rfl rfl rfl rfl ?_
      refine px_ld rfl rfl rfl rfl rfl ?_
      refine px_ld rfl rfl rfl rfl rfl ?_
      refine px_ld rfl rfl rfl rfl rfl ?_
      refine px_ld rfl rfl rfl rfl rfl ?_
      obtain ⟨t4, h0, h⟩ := xs_some h
      obtain ⟨fs, e1, e2⟩ := xgR_some h0
      refine px_get rfl e1 e2 rfl ?_
      refine px_ld rfl rfl rfl rfl rfl ?_
      obtain ⟨t5, h0, h⟩ := xs_some h
      obtain ⟨N, f, e1, e2, e3⟩ := xaI_some h0
      subst e3
      refine px_iald rfl e1 rfl e2 rfl ?_
      refine px_ld rfl rfl rfl rfl rfl ?_
      obtain ⟨t6, h0, h⟩ := xs_some h
      obtain ⟨fs, e1, e2⟩ := xgR_some h0
      refine px_get rfl e1 e2 rfl ?_
      refine px_ld rfl rfl rfl rfl rfl ?_
      obtain ⟨t7, h0, h⟩ := xs_some h
      obtain ⟨N, f, e1, e2, e3⟩ := xaI_some h0
      subst e3
      refine px_iald rfl e1 rfl e2 rfl ?_
      obtain ⟨fs, h0, h⟩ := xs_some h
      have e1 := xo_some h0
      obtain ⟨t8, ph9, h0, h⟩ := xb_some h
      refine px_cV4 rfl rfl e1 rfl rfl rfl rfl rfl rfl rfl (r_Pool_isEnd h0 :) (fun _ _ q => nomatch q.2) (fun r ph' q => ?_)
      obtain ⟨rfl, q⟩ := q
      cases q
      refine px_ifeq rfl (by decide) rfl (fun hc => ?_) (fun hc => ?_)
      · replace h := (if_pos hc).symm.trans h
        refine px_iinc (lv' := [_, _, _, _, _, _, _, _, _, _, _]) rfl rfl rfl rfl rfl rfl ?_
        refine px_goto rfl (by decide) rfl ?_
        exact (ih h :)
      · replace h := (if_neg hc).symm.trans h
        refine px_forget (n := 0) (lv' := [_, _, _, _, _, _, _, _, _, _, _]) rfl ?_
        refine px_forget (n := 5) (lv' := [_, _, _, _, _, _, _, _, _, _, _]) rfl ?_
        refine px_forget (n := 7) (lv' := [_, _, _, _, _, _, _, _, _, _, _]) rfl ?_
        refine px_forget (n := 10) (lv' := [_, _, _, _, _, _, _, _, _, _, _]) rfl ?_
        exact (r_Pool_addressIn_195 h :)
def f_Pool_addressIn_130 (F : Nat) (c : px_CT) (a0 : Nat) (a4 : Int32) (a5 : Int32) (a6 : Int32) (ph : px_H) : Option (Int64 × px_H) :=
  (xgJ ph 9 5 a0).bind fun t1 =>
  f_Pool_addressIn_148 F c F a0 a4 a5 a6 ((a6 + (nI 1)) - a5) t1 (nI 0) ph
theorem r_Pool_addressIn_130 {l : Launch} {g : px_G} {d F : Nat} {a0 : Nat} {a4 : Int32} {a5 : Int32} {a6 : Int32} {ph : px_H} {r : Int64} {ph' : px_H} (h : f_Pool_addressIn_130 F (px_ct g) a0 a4 a5 a6 ph = some (r, ph')) : PW l g (d + 1) m_Pool_addressIn 130 [.ref a0, px_u, px_u, px_u, .int a4, .int a5, .int a6, px_u, px_u, px_u, px_u] [] ph (px_qJ r ph') := by
  unfold f_Pool_addressIn_130 at h
  refine px_ld rfl rfl rfl rfl rfl ?_
  refine px_ic (k := 1) rfl rfl rfl ?_
  refine px_alu rfl rfl rfl ?_
  refine px_ld rfl rfl rfl rfl rfl ?_
  refine px_alu rfl rfl rfl ?_
  refine px_st (lv' := [_, _, _, _, _, _, _, _, _, _, _]) rfl rfl rfl rfl rfl rfl rfl ?_
  refine px_ld rfl rfl rfl rfl rfl ?_
  obtain ⟨t1, h0, h⟩ := xs_some h
  obtain ⟨fs, e1, e2⟩ := xgJ_some h0
  refine px_get rfl e1 e2 rfl ?_
  refine px_st (lv' := [_, _, _, _, _, _, _, _, _, _, _]) rfl rfl rfl rfl rfl rfl rfl ?_
  refine px_ic (k := 0) rfl rfl rfl ?_
  refine px_st (lv' := [_, _, _, _, _, _, _, _, _, _, _]) rfl rfl rfl rfl rfl rfl rfl ?_
  exact (r_Pool_addressIn_148 _ h :)
def f_Pool_addressIn_96 (F : Nat) (c : px_CT) : Nat → Nat → Option Nat → Int32 → Int32 → Int32 → px_H → Option (Int64 × px_H)
  | 0, _, _, _, _, _, _ => none
  | n + 1, a0, a1, a4, a5, a6, ph =>
    (a1).bind fun p1 =>
    (xgI ph 8 7 p1).bind fun t2 =>
    (xgI ph 8 5 p1).bind fun t3 =>
    if ((t2 + t3) - (nI 1)) ≤ a6 then
      f_Pool_addressIn_130 F c a0 a4 a5 a6 ph
    else
      (xgR ph 9 0 a0).bind fun t4 =>
      (xo ph 10 t4).bind fun _ =>
      xb (f_Row_at F c t4 a6 ph) fun t5 ph6 =>
      if t5 = 0 then
        f_Pool_addressIn_130 F c a0 a4 a5 a6 ph6
      else
        f_Pool_addressIn_96 F c n a0 (some p1) a4 a5 (a6 + nI 1) ph6
theorem r_Pool_addressIn_96 {l : Launch} {g : px_G} {d F : Nat} : ∀ (n : Nat) {a0 : Nat} {a1 : Option Nat} {a4 : Int32} {a5 : Int32} {a6 : Int32} {ph : px_H} {r : Int64} {ph' : px_H}, f_Pool_addressIn_96 F (px_ct g) n a0 a1 a4 a5 a6 ph = some (r, ph') → PW l g (d + 1) m_Pool_addressIn 96 [.ref a0, va_rf a1, px_u, px_u, .int a4, .int a5, .int a6, px_u, px_u, px_u, px_u] [] ph (px_qJ r ph') := by
  intro n
  induction n with
  | zero => intro _ _ _ _ _ _ _ _ h; cases h
  | succ n ih =>
    intro a0 a1 a4 a5 a6 ph r ph' h
    unfold f_Pool_addressIn_96 at h
    refine px_ld rfl rfl rfl rfl rfl ?_
    refine px_ld rfl rfl rfl (by first | rfl | (cases a1 <;> rfl)) rfl ?_
    obtain ⟨p1, h0, h⟩ := xs_some h
    revert h
    subst h0
    intro h
    obtain ⟨t2, h0, h⟩ := xs_some h
    obtain ⟨fs, e1, e2⟩ := xgI_some h0
    refine px_get rfl e1 e2 rfl ?_
    refine px_ld rfl rfl rfl rfl rfl ?_
    obtain ⟨t3, h0, h⟩ := xs_some h
    obtain ⟨fs, e1, e2⟩ := xgI_some h0
    refine px_get rfl e1 e2 rfl ?_
    refine px_alu rfl rfl rfl ?_
    refine px_ic (k := 1) rfl rfl rfl ?_
    refine px_alu rfl rfl rfl ?_
    refine px_icge rfl (by decide) rfl (fun hc => ?_) (fun hc => ?_)
    · replace h := (if_pos hc).symm.trans h
      refine px_forget (n := 1) (lv' := [_, _, _, _, _, _, _, _, _, _, _]) rfl ?_
      exact (r_Pool_addressIn_130 h :)
    · replace h := (if_neg hc).symm.trans h
      refine px_ld rfl rfl rfl rfl rfl ?_
      obtain ⟨t4, h0, h⟩ := xs_some h
      obtain ⟨fs, e1, e2⟩ := xgR_some h0
      refine px_get rfl e1 e2 rfl ?_
      refine px_ld rfl rfl rfl rfl rfl ?_
      obtain ⟨fs, h0, h⟩ := xs_some h
      have e1 := xo_some h0
      obtain ⟨t5, ph6, h0, h⟩ := xb_some h
      refine px_cV1 rfl rfl e1 rfl rfl rfl rfl rfl rfl rfl (r_Row_at h0 :) (fun _ _ q => nomatch q.2) (fun r ph' q => ?_)
      obtain ⟨rfl, q⟩ := q
      cases q
      refine px_ifeq rfl (by decide) rfl (fun hc => ?_) (fun hc => ?_)
      · replace h := (if_pos hc).symm.trans h
        refine px_forget (n := 1) (lv' := [_, _, _, _, _, _, _, _, _, _, _]) rfl ?_
        exact (r_Pool_addressIn_130 h :)
      · replace h := (if_neg hc).symm.trans h
        refine px_iinc (lv' := [_, _, _, _, _, _, _, _, _, _, _]) rfl rfl rfl rfl rfl rfl ?_
        refine px_goto rfl (by decide) rfl ?_
        exact (ih h :)
def f_Pool_addressIn_92 (F : Nat) (c : px_CT) (a0 : Nat) (a1 : Option Nat) (a4 : Int32) (a5 : Int32) (ph : px_H) : Option (Int64 × px_H) :=
  f_Pool_addressIn_96 F c F a0 a1 a4 a5 a4 ph
theorem r_Pool_addressIn_92 {l : Launch} {g : px_G} {d F : Nat} {a0 : Nat} {a1 : Option Nat} {a4 : Int32} {a5 : Int32} {ph : px_H} {r : Int64} {ph' : px_H} (h : f_Pool_addressIn_92 F (px_ct g) a0 a1 a4 a5 ph = some (r, ph')) : PW l g (d + 1) m_Pool_addressIn 92 [.ref a0, va_rf a1, px_u, px_u, .int a4, .int a5, px_u, px_u, px_u, px_u, px_u] [] ph (px_qJ r ph') := by
  unfold f_Pool_addressIn_92 at h
  refine px_ld rfl rfl rfl rfl rfl ?_
  refine px_st (lv' := [_, _, _, _, _, _, _, _, _, _, _]) rfl rfl rfl rfl rfl rfl rfl ?_
  exact (r_Pool_addressIn_96 _ h :)
def f_Pool_addressIn_63 (F : Nat) (c : px_CT) : Nat → Nat → Option Nat → Int32 → Int32 → px_H → Option (Int64 × px_H)
  | 0, _, _, _, _, _ => none
  | n + 1, a0, a1, a4, a5, ph =>
    (a1).bind fun p1 =>
    (xgI ph 8 7 p1).bind fun t2 =>
    if a5 ≤ t2 then
      f_Pool_addressIn_92 F c a0 (some p1) a4 a5 ph
    else
      (xgR ph 9 0 a0).bind fun t3 =>
      (xo ph 10 t3).bind fun _ =>
      xb (f_Row_at F c t3 (a5 - (nI 1)) ph) fun t4 ph5 =>
      if t4 = 0 then
        f_Pool_addressIn_92 F c a0 (some p1) a4 a5 ph5
      else
        f_Pool_addressIn_63 F c n a0 (some p1) a4 (a5 + Int32.ofInt (-1)) ph5
theorem r_Pool_addressIn_63 {l : Launch} {g : px_G} {d F : Nat} : ∀ (n : Nat) {a0 : Nat} {a1 : Option Nat} {a4 : Int32} {a5 : Int32} {ph : px_H} {r : Int64} {ph' : px_H}, f_Pool_addressIn_63 F (px_ct g) n a0 a1 a4 a5 ph = some (r, ph') → PW l g (d + 1) m_Pool_addressIn 63 [.ref a0, va_rf a1, px_u, px_u, .int a4, .int a5, px_u, px_u, px_u, px_u, px_u] [] ph (px_qJ r ph') := by
  intro n
  induction n with
  | zero => intro _ _ _ _ _ _ _ h; cases h
  | succ n ih =>
    intro a0 a1 a4 a5 ph r ph' h
    unfold f_Pool_addressIn_63 at h
    refine px_ld rfl rfl rfl rfl rfl ?_
    refine px_ld rfl rfl rfl (by first | rfl | (cases a1 <;> rfl)) rfl ?_
    obtain ⟨p1, h0, h⟩ := xs_some h
    revert h
    subst h0
    intro h
    obtain ⟨t2, h0, h⟩ := xs_some h
    obtain ⟨fs, e1, e2⟩ := xgI_some h0
    refine px_get rfl e1 e2 rfl ?_
    refine px_icle rfl (by decide) rfl (fun hc => ?_) (fun hc => ?_)
    · replace h := (if_pos hc).symm.trans h
      exact (r_Pool_addressIn_92 h :)
    · replace h := (if_neg hc).symm.trans h
      refine px_ld rfl rfl rfl rfl rfl ?_
      obtain ⟨t3, h0, h⟩ := xs_some h
      obtain ⟨fs, e1, e2⟩ := xgR_some h0
      refine px_get rfl e1 e2 rfl ?_
      refine px_ld rfl rfl rfl rfl rfl ?_
      refine px_ic (k := 1) rfl rfl rfl ?_
      refine px_alu rfl rfl rfl ?_
      obtain ⟨fs, h0, h⟩ := xs_some h
      have e1 := xo_some h0
      obtain ⟨t4, ph5, h0, h⟩ := xb_some h
      refine px_cV1 rfl rfl e1 rfl rfl rfl rfl rfl rfl rfl (r_Row_at h0 :) (fun _ _ q => nomatch q.2) (fun r ph' q => ?_)
      obtain ⟨rfl, q⟩ := q
      cases q
      refine px_ifeq rfl (by decide) rfl (fun hc => ?_) (fun hc => ?_)
      · replace h := (if_pos hc).symm.trans h
        exact (r_Pool_addressIn_92 h :)
      · replace h := (if_neg hc).symm.trans h
        refine px_iinc (lv' := [_, _, _, _, _, _, _, _, _, _, _]) rfl rfl rfl rfl rfl rfl ?_
        refine px_goto rfl (by decide) rfl ?_
        exact (ih h :)
def f_Pool_addressIn_39 (F : Nat) (c : px_CT) (a0 : Nat) (ph : px_H) : Option (Int64 × px_H) :=
  (xgJ ph 9 5 a0).bind fun t1 =>
  (xgI ph 9 4 a0).bind fun t2 =>
  some (t1 + t2.toInt64, ph)
theorem r_Pool_addressIn_39 {l : Launch} {g : px_G} {d F : Nat} {a0 : Nat} {ph : px_H} {r : Int64} {ph' : px_H} (h : f_Pool_addressIn_39 F (px_ct g) a0 ph = some (r, ph')) : PW l g (d + 1) m_Pool_addressIn 39 [.ref a0, px_u, px_u, px_u, px_u, px_u, px_u, px_u, px_u, px_u, px_u] [] ph (px_qJ r ph') := by
  unfold f_Pool_addressIn_39 at h
  refine px_ld rfl rfl rfl rfl rfl ?_
  obtain ⟨t1, h0, h⟩ := xs_some h
  obtain ⟨fs, e1, e2⟩ := xgJ_some h0
  refine px_get rfl e1 e2 rfl ?_
  refine px_ld rfl rfl rfl rfl rfl ?_
  obtain ⟨t2, h0, h⟩ := xs_some h
  obtain ⟨fs, e1, e2⟩ := xgI_some h0
  refine px_get rfl e1 e2 rfl ?_
  refine px_alu rfl rfl rfl ?_
  refine px_alu rfl rfl rfl ?_
  cases h
  exact px_lret rfl rfl rfl ⟨rfl, rfl⟩
def f_Pool_addressIn (F : Nat) (c : px_CT) (a0 : Nat) (a1 : Option Nat) (a2 : Int64) (ph : px_H) : Option (Int64 × px_H) :=
  (a1).bind fun p1 =>
  (xgI ph 8 9 p1).bind fun t2 =>
  if t2 = 0 then
    some (lN 0, ph)
  else
    (xgI ph 8 10 p1).bind fun t3 =>
    if t3 = 0 then
      (xgJ ph 8 11 p1).bind fun t6 =>
      some (t6 + a2, ph)
    else
      if a2 < (lN 0) then
        f_Pool_addressIn_39 F c a0 ph
      else
        (xgI ph 8 5 p1).bind fun t4 =>
        if a2 < t4.toInt64 then
          (xgI ph 8 7 p1).bind fun t5 =>
          f_Pool_addressIn_63 F c F a0 (some p1) (t5 + a2.toInt32) (t5 + a2.toInt32) ph
        else
          f_Pool_addressIn_39 F c a0 ph
theorem r_Pool_addressIn {l : Launch} {g : px_G} {d F : Nat} {a0 : Nat} {a1 : Option Nat} {a2 : Int64} {ph : px_H} {r : Int64} {ph' : px_H} (h : f_Pool_addressIn F (px_ct g) a0 a1 a2 ph = some (r, ph')) : PW l g (d + 1) m_Pool_addressIn 0 [.ref a0, va_rf a1, .long a2, px_u, px_u, px_u, px_u, px_u, px_u, px_u, px_u] [] ph (px_qJ r ph') := by
  unfold f_Pool_addressIn at h
  refine px_ld rfl rfl rfl (by first | rfl | (cases a1 <;> rfl)) rfl ?_
  obtain ⟨p1, h0, h⟩ := xs_some h
  revert h
  subst h0
  intro h
  obtain ⟨t2, h0, h⟩ := xs_some h
  obtain ⟨fs, e1, e2⟩ := xgI_some h0
  refine px_get rfl e1 e2 rfl ?_
  refine px_ifne rfl (by decide) rfl (fun hc => ?_) (fun hc => ?_)
  · replace h := (if_neg hc).symm.trans h
    refine px_ld rfl rfl rfl rfl rfl ?_
    obtain ⟨t3, h0, h⟩ := xs_some h
    obtain ⟨fs, e1, e2⟩ := xgI_some h0
    refine px_get rfl e1 e2 rfl ?_
    refine px_ifne rfl (by decide) rfl (fun hc => ?_) (fun hc => ?_)
    · replace h := (if_neg hc).symm.trans h
      refine px_ld rfl rfl rfl rfl rfl ?_
      refine px_alu rfl rfl rfl ?_
      refine px_alu rfl rfl rfl ?_
      refine px_iflt rfl (by decide) rfl (fun hc => ?_) (fun hc => ?_)
      · replace h := (if_pos ((lg_cmp_lt _ _).mp hc)).symm.trans h
        refine px_forget (n := 1) (lv' := [_, _, _, _, _, _, _, _, _, _, _]) rfl ?_
        refine px_forget (n := 2) (lv' := [_, _, _, _, _, _, _, _, _, _, _]) rfl ?_
        exact (r_Pool_addressIn_39 h :)
      · replace h := (if_neg (fun q => hc ((lg_cmp_lt _ _).mpr q))).symm.trans h
        refine px_ld rfl rfl rfl rfl rfl ?_
        refine px_ld rfl rfl rfl rfl rfl ?_
        obtain ⟨t4, h0, h⟩ := xs_some h
        obtain ⟨fs, e1, e2⟩ := xgI_some h0
        refine px_get rfl e1 e2 rfl ?_
        refine px_alu rfl rfl rfl ?_
        refine px_alu rfl rfl rfl ?_
        refine px_iflt rfl (by decide) rfl (fun hc => ?_) (fun hc => ?_)
        · replace h := (if_pos ((lg_cmp_lt _ _).mp hc)).symm.trans h
          refine px_ld rfl rfl rfl rfl rfl ?_
          obtain ⟨t5, h0, h⟩ := xs_some h
          obtain ⟨fs, e1, e2⟩ := xgI_some h0
          refine px_get rfl e1 e2 rfl ?_
          refine px_ld rfl rfl rfl rfl rfl ?_
          refine px_alu rfl rfl rfl ?_
          refine px_alu rfl rfl rfl ?_
          refine px_st (lv' := [_, _, _, _, _, _, _, _, _, _, _]) rfl rfl rfl rfl rfl rfl rfl ?_
          refine px_ld rfl rfl rfl rfl rfl ?_
          refine px_st (lv' := [_, _, _, _, _, _, _, _, _, _, _]) rfl rfl rfl rfl rfl rfl rfl ?_
          refine px_forget (n := 2) (lv' := [_, _, _, _, _, _, _, _, _, _, _]) rfl ?_
          exact (r_Pool_addressIn_63 _ h :)
        · replace h := (if_neg (fun q => hc ((lg_cmp_lt _ _).mpr q))).symm.trans h
          refine px_forget (n := 1) (lv' := [_, _, _, _, _, _, _, _, _, _, _]) rfl ?_
          refine px_forget (n := 2) (lv' := [_, _, _, _, _, _, _, _, _, _, _]) rfl ?_
          exact (r_Pool_addressIn_39 h :)
    · replace h := (if_pos hc).symm.trans h
      refine px_ld rfl rfl rfl rfl rfl ?_
      obtain ⟨t6, h0, h⟩ := xs_some h
      obtain ⟨fs, e1, e2⟩ := xgJ_some h0
      refine px_get rfl e1 e2 rfl ?_
      refine px_ld rfl rfl rfl rfl rfl ?_
      refine px_alu rfl rfl rfl ?_
      cases h
      exact px_lret rfl rfl rfl ⟨rfl, rfl⟩
  · replace h := (if_pos hc).symm.trans h
    refine px_alu rfl rfl rfl ?_
    cases h
    exact px_lret rfl rfl rfl ⟨rfl, rfl⟩
def f_Layout_ownAddress (F : Nat) (c : px_CT) (a0 : Nat) (a1 : Int32) (ph : px_H) : Option (Int64 × px_H) :=
  if a1 = nI 0 then
    (xgJ ph 2 14 a0).bind fun t1 =>
    some (t1, ph)
  else if a1 = nI 1 then
    (xgR ph 2 6 a0).bind fun t2 =>
    (xaJ ph 2 t2 (nI 2)).bind fun t3 =>
    (xgR ph 2 7 a0).bind fun t4 =>
    (xaJ ph 2 t4 (nI 2)).bind fun t5 =>
    some (t3 + t5, ph)
  else if a1 = nI 2 then
    (xgJ ph 2 15 a0).bind fun t6 =>
    some (t6, ph)
  else 
    (xgR ph 2 6 a0).bind fun t7 =>
    (xaJ ph 2 t7 (nI 2)).bind fun t8 =>
    (xgR ph 2 8 a0).bind fun t9 =>
    (xaJ ph 2 t9 (nI 2)).bind fun t10 =>
    some (t8 + t10, ph)
theorem r_Layout_ownAddress {l : Launch} {g : px_G} {d F : Nat} {a0 : Nat} {a1 : Int32} {ph : px_H} {r : Int64} {ph' : px_H} (h : f_Layout_ownAddress F (px_ct g) a0 a1 ph = some (r, ph')) : PW l g (d + 0) m_Layout_ownAddress 0 [.ref a0, .int a1] [] ph (px_qJ r ph') := by
  unfold f_Layout_ownAddress at h
  refine px_ld rfl rfl rfl rfl rfl ?_
  by_cases hs0 : a1 = nI 0
  · replace h := (if_pos hs0).symm.trans h
    refine px_tsK (len := 27) (off := 27) (tgt := 28) 0 rfl hs0 (by decide) (by decide) (by decide) rfl (by decide) ?_
    refine px_ld rfl rfl rfl rfl rfl ?_
    obtain ⟨t1, h0, h⟩ := xs_some h
    obtain ⟨fs, e1, e2⟩ := xgJ_some h0
    refine px_get rfl e1 e2 rfl ?_
    cases h
    exact px_lret rfl rfl rfl ⟨rfl, rfl⟩
  replace h := (if_neg hs0).symm.trans h
  by_cases hs1 : a1 = nI 1
  · replace h := (if_pos hs1).symm.trans h
    refine px_tsK (len := 27) (off := 32) (tgt := 33) 1 rfl hs1 (by decide) (by decide) (by decide) rfl (by decide) ?_
    refine px_ld rfl rfl rfl rfl rfl ?_
    obtain ⟨t2, h0, h⟩ := xs_some h
    obtain ⟨fs, e1, e2⟩ := xgR_some h0
    refine px_get rfl e1 e2 rfl ?_
    refine px_ic (k := 2) rfl rfl rfl ?_
    obtain ⟨t3, h0, h⟩ := xs_some h
    obtain ⟨N, f, e1, e2, e3⟩ := xaJ_some h0
    subst e3
    refine px_lald rfl e1 rfl e2 rfl ?_
    refine px_ld rfl rfl rfl rfl rfl ?_
    obtain ⟨t4, h0, h⟩ := xs_some h
    obtain ⟨fs, e1, e2⟩ := xgR_some h0
    refine px_get rfl e1 e2 rfl ?_
    refine px_ic (k := 2) rfl rfl rfl ?_
    obtain ⟨t5, h0, h⟩ := xs_some h
    obtain ⟨N, f, e1, e2, e3⟩ := xaJ_some h0
    subst e3
    refine px_lald rfl e1 rfl e2 rfl ?_
    refine px_alu rfl rfl rfl ?_
    cases h
    exact px_lret rfl rfl rfl ⟨rfl, rfl⟩
  replace h := (if_neg hs1).symm.trans h
  by_cases hs2 : a1 = nI 2
  · replace h := (if_pos hs2).symm.trans h
    refine px_tsK (len := 27) (off := 46) (tgt := 47) 2 rfl hs2 (by decide) (by decide) (by decide) rfl (by decide) ?_
    refine px_ld rfl rfl rfl rfl rfl ?_
    obtain ⟨t6, h0, h⟩ := xs_some h
    obtain ⟨fs, e1, e2⟩ := xgJ_some h0
    refine px_get rfl e1 e2 rfl ?_
    cases h
    exact px_lret rfl rfl rfl ⟨rfl, rfl⟩
  replace h := (if_neg hs2).symm.trans h
  refine px_tsD (len := 27) (lo := 0) (n := 3) (tgt := 52) rfl (lt_s (lt_s (lt_s lt_0 hs0) hs1) hs2) (by decide) (by decide) ?_
  refine px_ld rfl rfl rfl rfl rfl ?_
  obtain ⟨t7, h0, h⟩ := xs_some h
  obtain ⟨fs, e1, e2⟩ := xgR_some h0
  refine px_get rfl e1 e2 rfl ?_
  refine px_ic (k := 2) rfl rfl rfl ?_
  obtain ⟨t8, h0, h⟩ := xs_some h
  obtain ⟨N, f, e1, e2, e3⟩ := xaJ_some h0
  subst e3
  refine px_lald rfl e1 rfl e2 rfl ?_
  refine px_ld rfl rfl rfl rfl rfl ?_
  obtain ⟨t9, h0, h⟩ := xs_some h
  obtain ⟨fs, e1, e2⟩ := xgR_some h0
  refine px_get rfl e1 e2 rfl ?_
  refine px_ic (k := 2) rfl rfl rfl ?_
  obtain ⟨t10, h0, h⟩ := xs_some h
  obtain ⟨N, f, e1, e2, e3⟩ := xaJ_some h0
  subst e3
  refine px_lald rfl e1 rfl e2 rfl ?_
  refine px_alu rfl rfl rfl ?_
  cases h
  exact px_lret rfl rfl rfl ⟨rfl, rfl⟩
def f_Layout_addressOf_83 (F : Nat) (c : px_CT) (s0 : Int64) (ph : px_H) : Option (Int64 × px_H) :=
  some (s0, ph)
theorem r_Layout_addressOf_83 {l : Launch} {g : px_G} {d F : Nat} {s0 : Int64} {ph : px_H} {r : Int64} {ph' : px_H} (h : f_Layout_addressOf_83 F (px_ct g) s0 ph = some (r, ph')) : PW l g (d + 2) m_Layout_addressOf 83 [px_u, px_u] [.long s0] ph (px_qJ r ph') := by
  unfold f_Layout_addressOf_83 at h
  cases h
  exact px_lret rfl rfl rfl ⟨rfl, rfl⟩
def f_Layout_addressOf_62 (F : Nat) (c : px_CT) (s0 : Int64) (ph : px_H) : Option (Int64 × px_H) :=
  some (s0, ph)
theorem r_Layout_addressOf_62 {l : Launch} {g : px_G} {d F : Nat} {s0 : Int64} {ph : px_H} {r : Int64} {ph' : px_H} (h : f_Layout_addressOf_62 F (px_ct g) s0 ph = some (r, ph')) : PW l g (d + 2) m_Layout_addressOf 62 [px_u, px_u] [.long s0] ph (px_qJ r ph') := by
  unfold f_Layout_addressOf_62 at h
  cases h
  exact px_lret rfl rfl rfl ⟨rfl, rfl⟩
def f_Layout_addressOf (F : Nat) (c : px_CT) (a0 : Nat) (a1 : Option Nat) (ph : px_H) : Option (Int64 × px_H) :=
  (a1).bind fun p1 =>
  (xgI ph 5 5 p1).bind fun t2 =>
  if t2 = nI 1 then
    (xgN ph 5 6 p1).bind fun t3 =>
    (match t3 with
      | none => f_Layout_addressOf_62 F c (lN 0) ph
      | some p4 => (xgR ph 2 1 a0).bind fun t5 =>
      (xgN ph 5 6 p1).bind fun t6 =>
      (xgJ ph 5 7 p1).bind fun t7 =>
      (xo ph 9 t5).bind fun _ =>
      xb (f_Pool_addressIn F c t5 t6 t7 ph) fun t8 ph9 =>
      f_Layout_addressOf_62 F c t8 ph9)
  else if t2 = nI 2 then
    (xgJ ph 5 7 p1).bind fun t10 =>
    some (t10, ph)
  else if t2 = nI 3 then
    (xgI ph 5 13 p1).bind fun t11 =>
    if t11 = 0 then
      f_Layout_addressOf_83 F c (lN 0) ph
    else
      (xgJ ph 5 14 p1).bind fun t12 =>
      f_Layout_addressOf_83 F c t12 ph
  else if t2 = nI 4 then
    (xgJ ph 5 7 p1).bind fun t13 =>
    (xo ph 2 a0).bind fun _ =>
    xb (f_Layout_ownAddress F c a0 t13.toInt32 ph) fun t14 ph15 =>
    some (t14, ph15)
  else 
    some (lN 0, ph)
theorem r_Layout_addressOf {l : Launch} {g : px_G} {d F : Nat} {a0 : Nat} {a1 : Option Nat} {ph : px_H} {r : Int64} {ph' : px_H} (h : f_Layout_addressOf F (px_ct g) a0 a1 ph = some (r, ph')) : PW l g (d + 2) m_Layout_addressOf 0 [.ref a0, va_rf a1] [] ph (px_qJ r ph') := by
  unfold f_Layout_addressOf at h
  refine px_ld rfl rfl rfl (by first | rfl | (cases a1 <;> rfl)) rfl ?_
  obtain ⟨p1, h0, h⟩ := xs_some h
  revert h
  subst h0
  intro h
  obtain ⟨t2, h0, h⟩ := xs_some h
  obtain ⟨fs, e1, e2⟩ := xgI_some h0
  refine px_get rfl e1 e2 rfl ?_
  by_cases hs0 : t2 = nI 1
  · replace h := (if_pos hs0).symm.trans h
    refine px_tsK (len := 32) (off := 32) (tgt := 36) 1 rfl hs0 (by decide) (by decide) (by decide) rfl (by decide) ?_
    refine px_ld rfl rfl rfl rfl rfl ?_
    obtain ⟨t3, h0, h⟩ := xs_some h
    obtain ⟨fs, e1, e2⟩ := xgN_some h0
    refine px_get rfl e1 e2 rfl ?_
    cases t3 with
    | none =>
      refine px_ifnnN rfl rfl ?_
      refine px_alu rfl rfl rfl ?_
      refine px_goto rfl rfl rfl ?_
      refine px_forget (n := 0) (lv' := [_, _]) rfl ?_
      refine px_forget (n := 1) (lv' := [_, _]) rfl ?_
      exact (r_Layout_addressOf_62 h :)
    | some p4 =>
      refine px_ifnnR rfl rfl rfl ?_
      refine px_ld rfl rfl rfl rfl rfl ?_
      obtain ⟨t5, h0, h⟩ := xs_some h
      obtain ⟨fs, e1, e2⟩ := xgR_some h0
      refine px_get rfl e1 e2 rfl ?_
      refine px_ld rfl rfl rfl rfl rfl ?_
      obtain ⟨t6, h0, h⟩ := xs_some h
      obtain ⟨fs, e1, e2⟩ := xgN_some h0
      refine px_get rfl e1 e2 rfl ?_
      refine px_ld rfl rfl rfl rfl rfl ?_
      obtain ⟨t7, h0, h⟩ := xs_some h
      obtain ⟨fs, e1, e2⟩ := xgJ_some h0
      refine px_get rfl e1 e2 rfl ?_
      obtain ⟨fs, h0, h⟩ := xs_some h
      have e1 := xo_some h0
      obtain ⟨t8, ph9, h0, h⟩ := xb_some h
      refine px_cV2 (lv0 := [.ref t5, va_rf t6, .long t7, px_u, px_u, px_u, px_u, px_u, px_u, px_u, px_u]) rfl rfl e1 rfl rfl rfl (by first | rfl | (cases t6 <;> rfl)) rfl (by first | rfl | (cases t6 <;> rfl)) rfl (r_Pool_addressIn h0 :) (fun _ _ q => nomatch q.2) (fun r ph' q => ?_)
      obtain ⟨rfl, q⟩ := q
      cases q
      refine px_forget (n := 0) (lv' := [_, _]) rfl ?_
      refine px_forget (n := 1) (lv' := [_, _]) rfl ?_
      exact (r_Layout_addressOf_62 h :)
  replace h := (if_neg hs0).symm.trans h
  by_cases hs1 : t2 = nI 2
  · replace h := (if_pos hs1).symm.trans h
    refine px_tsK (len := 32) (off := 59) (tgt := 63) 2 rfl hs1 (by decide) (by decide) (by decide) rfl (by decide) ?_
    refine px_ld rfl rfl rfl rfl rfl ?_
    obtain ⟨t10, h0, h⟩ := xs_some h
    obtain ⟨fs, e1, e2⟩ := xgJ_some h0
    refine px_get rfl e1 e2 rfl ?_
    cases h
    exact px_lret rfl rfl rfl ⟨rfl, rfl⟩
  replace h := (if_neg hs1).symm.trans h
  by_cases hs2 : t2 = nI 3
  · replace h := (if_pos hs2).symm.trans h
    refine px_tsK (len := 32) (off := 64) (tgt := 68) 3 rfl hs2 (by decide) (by decide) (by decide) rfl (by decide) ?_
    refine px_ld rfl rfl rfl rfl rfl ?_
    obtain ⟨t11, h0, h⟩ := xs_some h
    obtain ⟨fs, e1, e2⟩ := xgI_some h0
    refine px_get rfl e1 e2 rfl ?_
    refine px_ifeq rfl rfl rfl (fun hc => ?_) (fun hc => ?_)
    · replace h := (if_pos hc).symm.trans h
      refine px_alu rfl rfl rfl ?_
      refine px_forget (n := 0) (lv' := [_, _]) rfl ?_
      refine px_forget (n := 1) (lv' := [_, _]) rfl ?_
      exact (r_Layout_addressOf_83 h :)
    · replace h := (if_neg hc).symm.trans h
      refine px_ld rfl rfl rfl rfl rfl ?_
      obtain ⟨t12, h0, h⟩ := xs_some h
      obtain ⟨fs, e1, e2⟩ := xgJ_some h0
      refine px_get rfl e1 e2 rfl ?_
      refine px_goto rfl rfl rfl ?_
      refine px_forget (n := 0) (lv' := [_, _]) rfl ?_
      refine px_forget (n := 1) (lv' := [_, _]) rfl ?_
      exact (r_Layout_addressOf_83 h :)
  replace h := (if_neg hs2).symm.trans h
  by_cases hs3 : t2 = nI 4
  · replace h := (if_pos hs3).symm.trans h
    refine px_tsK (len := 32) (off := 80) (tgt := 84) 4 rfl hs3 (by decide) (by decide) (by decide) rfl (by decide) ?_
    refine px_ld rfl rfl rfl rfl rfl ?_
    refine px_ld rfl rfl rfl rfl rfl ?_
    obtain ⟨t13, h0, h⟩ := xs_some h
    obtain ⟨fs, e1, e2⟩ := xgJ_some h0
    refine px_get rfl e1 e2 rfl ?_
    refine px_alu rfl rfl rfl ?_
    obtain ⟨fs, h0, h⟩ := xs_some h
    have e1 := xo_some h0
    obtain ⟨t14, ph15, h0, h⟩ := xb_some h
    refine px_cV1 rfl rfl e1 rfl rfl rfl rfl rfl rfl rfl (r_Layout_ownAddress h0 :) (fun _ _ q => nomatch q.2) (fun r ph' q => ?_)
    obtain ⟨rfl, q⟩ := q
    cases q
    cases h
    exact px_lret rfl rfl rfl ⟨rfl, rfl⟩
  replace h := (if_neg hs3).symm.trans h
  refine px_tsD (len := 32) (lo := 1) (n := 4) (tgt := 94) rfl (lt_s (lt_s (lt_s (lt_s lt_0 hs0) hs1) hs2) hs3) (by decide) (by decide) ?_
  refine px_alu rfl rfl rfl ?_
  cases h
  exact px_lret rfl rfl rfl ⟨rfl, rfl⟩
def f_Layout_lay_101 (F : Nat) (c : px_CT) (ph : px_H) : Option (Unit × px_H) :=
  some ((), ph)
theorem r_Layout_lay_101 {l : Launch} {g : px_G} {d F : Nat} {ph : px_H} {r : Unit} {ph' : px_H} (h : f_Layout_lay_101 F (px_ct g) ph = some (r, ph')) : PW l g (d + 5) m_Layout_lay 101 [px_u, px_u, px_u] [] ph (px_qV r ph') := by
  unfold f_Layout_lay_101 at h
  cases h
  exact px_vret rfl rfl rfl ⟨rfl, rfl⟩
def f_Layout_lay_60 (F : Nat) (c : px_CT) : Nat → Nat → Int32 → px_H → Option (Unit × px_H)
  | 0, _, _, _ => none
  | n + 1, a0, a1, ph =>
    (xgR ph 2 0 a0).bind fun t1 =>
    (xgR ph 3 3 t1).bind fun t2 =>
    (xgI ph 6 2 t2).bind fun t3 =>
    if t3 ≤ a1 then
      f_Layout_lay_101 F c ph
    else
      (xgR ph 2 0 a0).bind fun t4 =>
      (xgR ph 3 3 t4).bind fun t5 =>
      (xo ph 6 t5).bind fun _ =>
      xb (f_Names_at F c t5 a1 ph) fun t6 ph7 =>
      (xo ph7 2 a0).bind fun _ =>
      xb (f_Layout_addressOf F c a0 t6 ph7) fun t8 ph9 =>
      (t6).bind fun p10 =>
      (xpJ ph9 5 14 p10 t8).bind fun ph11 =>
      f_Layout_lay_60 F c n a0 (a1 + nI 1) ph11
theorem r_Layout_lay_60 {l : Launch} {g : px_G} {d F : Nat} : ∀ (n : Nat) {a0 : Nat} {a1 : Int32} {ph : px_H} {r : Unit} {ph' : px_H}, f_Layout_lay_60 F (px_ct g) n a0 a1 ph = some (r, ph') → PW l g (d + 5) m_Layout_lay 60 [.ref a0, .int a1, px_u] [] ph (px_qV r ph') := by
  intro n
  induction n with
  | zero => intro _ _ _ _ _ h; cases h
  | succ n ih =>
    intro a0 a1 ph r ph' h
    unfold f_Layout_lay_60 at h
    refine px_ld rfl rfl rfl rfl rfl ?_
    refine px_ld rfl rfl rfl rfl rfl ?_
    obtain ⟨t1, h0, h⟩ := xs_some h
    obtain ⟨fs, e1, e2⟩ := xgR_some h0
    refine px_get rfl e1 e2 rfl ?_
    obtain ⟨t2, h0, h⟩ := xs_some h
    obtain ⟨fs, e1, e2⟩ := xgR_some h0
    refine px_get rfl e1 e2 rfl ?_
    obtain ⟨t3, h0, h⟩ := xs_some h
    obtain ⟨fs, e1, e2⟩ := xgI_some h0
    refine px_get rfl e1 e2 rfl ?_
    refine px_icge rfl rfl rfl (fun hc => ?_) (fun hc => ?_)
    · replace h := (if_pos hc).symm.trans h
      refine px_forget (n := 0) (lv' := [_, _, _]) rfl ?_
      refine px_forget (n := 1) (lv' := [_, _, _]) rfl ?_
      exact (r_Layout_lay_101 h :)
    · replace h := (if_neg hc).symm.trans h
      refine px_ld rfl rfl rfl rfl rfl ?_
      obtain ⟨t4, h0, h⟩ := xs_some h
      obtain ⟨fs, e1, e2⟩ := xgR_some h0
      refine px_get rfl e1 e2 rfl ?_
      obtain ⟨t5, h0, h⟩ := xs_some h
      obtain ⟨fs, e1, e2⟩ := xgR_some h0
      refine px_get rfl e1 e2 rfl ?_
      refine px_ld rfl rfl rfl rfl rfl ?_
      obtain ⟨fs, h0, h⟩ := xs_some h
      have e1 := xo_some h0
      obtain ⟨t6, ph7, h0, h⟩ := xb_some h
      refine px_cV1 rfl rfl e1 rfl rfl rfl rfl rfl rfl rfl (r_Names_at h0 :) (fun _ _ q => nomatch q.2) (fun r ph' q => ?_)
      obtain ⟨rfl, q⟩ := q
      cases q
      refine px_st (lv' := [.ref a0, .int a1, va_rf t6]) rfl rfl (by first | rfl | (cases t6 <;> rfl)) (by first | rfl | (cases t6 <;> rfl)) rfl (by first | rfl | (cases t6 <;> rfl)) rfl ?_
      refine px_ld rfl rfl rfl (by first | rfl | (cases t6 <;> rfl)) rfl ?_
      refine px_ld rfl rfl rfl rfl rfl ?_
      refine px_ld rfl rfl rfl (by first | rfl | (cases t6 <;> rfl)) rfl ?_
      obtain ⟨fs, h0, h⟩ := xs_some h
      have e1 := xo_some h0
      obtain ⟨t8, ph9, h0, h⟩ := xb_some h
      refine px_cV1 (lv0 := [.ref a0, va_rf t6]) rfl rfl e1 rfl rfl rfl (by first | rfl | (cases t6 <;> rfl)) (by first | rfl | (cases t6 <;> rfl)) (by first | rfl | (cases t6 <;> rfl)) rfl (r_Layout_addressOf h0 :) (fun _ _ q => nomatch q.2) (fun r ph' q => ?_)
      obtain ⟨rfl, q⟩ := q
      cases q
      obtain ⟨p10, h0, h⟩ := xs_some h
      revert h
      subst h0
      intro h
      obtain ⟨ph11, h0, h⟩ := xs_some h
      obtain ⟨fs, e1, e2, e3⟩ := xpJ_some h0
      subst e3
      refine px_put rfl e1 e2 trivial rfl ?_
      refine px_iinc (lv' := [_, _, _]) rfl rfl rfl rfl rfl rfl ?_
      refine px_goto rfl rfl rfl ?_
      refine px_forget (n := 2) (lv' := [_, _, _]) rfl ?_
      exact (ih h :)
def f_Layout_lay_58 (F : Nat) (c : px_CT) (a0 : Nat) (ph : px_H) : Option (Unit × px_H) :=
  f_Layout_lay_60 F c F a0 (nI 0) ph
theorem r_Layout_lay_58 {l : Launch} {g : px_G} {d F : Nat} {a0 : Nat} {ph : px_H} {r : Unit} {ph' : px_H} (h : f_Layout_lay_58 F (px_ct g) a0 ph = some (r, ph')) : PW l g (d + 5) m_Layout_lay 58 [.ref a0, px_u, px_u] [] ph (px_qV r ph') := by
  unfold f_Layout_lay_58 at h
  refine px_ic (k := 0) rfl rfl rfl ?_
  refine px_st (lv' := [_, _, _]) rfl rfl rfl rfl rfl rfl rfl ?_
  exact (r_Layout_lay_60 _ h :)
def f_Layout_lay_52 (F : Nat) (c : px_CT) (k18 : Nat → Int32 → px_H → Option (Unit × px_H)) (a0 : Nat) (a1 : Int32) (ph : px_H) : Option (Unit × px_H) :=
  k18 a0 (a1 + nI 1) ph
theorem r_Layout_lay_52 {l : Launch} {g : px_G} {d F : Nat} {k18 : Nat → Int32 → px_H → Option (Unit × px_H)} (hk18 : ∀ {a0 : Nat} {a1 : Int32} {ph : px_H} {r : Unit} {ph' : px_H}, k18 a0 a1 ph = some (r, ph') → PW l g (d + 5) m_Layout_lay 18 [.ref a0, .int a1, px_u] [] ph (px_qV r ph')) {a0 : Nat} {a1 : Int32} {ph : px_H} {r : Unit} {ph' : px_H} (h : f_Layout_lay_52 F (px_ct g) k18 a0 a1 ph = some (r, ph')) : PW l g (d + 5) m_Layout_lay 52 [.ref a0, .int a1, px_u] [] ph (px_qV r ph') := by
  unfold f_Layout_lay_52 at h
  refine px_iinc (lv' := [_, _, _]) rfl rfl rfl rfl rfl rfl ?_
  refine px_goto rfl rfl rfl ?_
  exact (hk18 h :)
def f_Layout_lay_18 (F : Nat) (c : px_CT) : Nat → Nat → Int32 → px_H → Option (Unit × px_H)
  | 0, _, _, _ => none
  | n + 1, a0, a1, ph =>
    (xgI ph 2 11 a0).bind fun t1 =>
    if t1 ≤ a1 then
      f_Layout_lay_58 F c a0 ph
    else
      (xo ph 2 a0).bind fun _ =>
      xb (f_Layout_partAt F c a0 a1 ph) fun t2 ph3 =>
      (t2).bind fun p4 =>
      (xgI ph3 8 10 p4).bind fun t5 =>
      if t5 = 0 then
        f_Layout_lay_52 F c (f_Layout_lay_18 F c n) a0 a1 ph3
      else
        (xgR ph3 2 1 a0).bind fun t6 =>
        (xo ph3 9 t6).bind fun _ =>
        xb (f_Pool_addressIn F c t6 (some p4) (lN 0) ph3) fun t7 ph8 =>
        (xpJ ph8 8 11 p4 t7).bind fun ph9 =>
        f_Layout_lay_52 F c (f_Layout_lay_18 F c n) a0 a1 ph9
theorem r_Layout_lay_18 {l : Launch} {g : px_G} {d F : Nat} : ∀ (n : Nat) {a0 : Nat} {a1 : Int32} {ph : px_H} {r : Unit} {ph' : px_H}, f_Layout_lay_18 F (px_ct g) n a0 a1 ph = some (r, ph') → PW l g (d + 5) m_Layout_lay 18 [.ref a0, .int a1, px_u] [] ph (px_qV r ph') := by
  intro n
  induction n with
  | zero => intro _ _ _ _ _ h; cases h
  | succ n ih =>
    intro a0 a1 ph r ph' h
    unfold f_Layout_lay_18 at h
    refine px_ld rfl rfl rfl rfl rfl ?_
    refine px_ld rfl rfl rfl rfl rfl ?_
    obtain ⟨t1, h0, h⟩ := xs_some h
    obtain ⟨fs, e1, e2⟩ := xgI_some h0
    refine px_get rfl e1 e2 rfl ?_
    refine px_icge rfl rfl rfl (fun hc => ?_) (fun hc => ?_)
    · replace h := (if_pos hc).symm.trans h
      refine px_forget (n := 1) (lv' := [_, _, _]) rfl ?_
      exact (r_Layout_lay_58 h :)
    · replace h := (if_neg hc).symm.trans h
      refine px_ld rfl rfl rfl rfl rfl ?_
      refine px_ld rfl rfl rfl rfl rfl ?_
      obtain ⟨fs, h0, h⟩ := xs_some h
      have e1 := xo_some h0
      obtain ⟨t2, ph3, h0, h⟩ := xb_some h
      refine px_cV1 rfl rfl e1 rfl rfl rfl rfl rfl rfl rfl (r_Layout_partAt h0 :) (fun _ _ q => nomatch q.2) (fun r ph' q => ?_)
      obtain ⟨rfl, q⟩ := q
      cases q
      refine px_st (lv' := [.ref a0, .int a1, va_rf t2]) rfl rfl (by first | rfl | (cases t2 <;> rfl)) (by first | rfl | (cases t2 <;> rfl)) rfl (by first | rfl | (cases t2 <;> rfl)) rfl ?_
      refine px_ld rfl rfl rfl (by first | rfl | (cases t2 <;> rfl)) rfl ?_
      obtain ⟨p4, h0, h⟩ := xs_some h
      revert h
      subst h0
      intro h
      obtain ⟨t5, h0, h⟩ := xs_some h
      obtain ⟨fs, e1, e2⟩ := xgI_some h0
      refine px_get rfl e1 e2 rfl ?_
      refine px_ifeq rfl rfl rfl (fun hc => ?_) (fun hc => ?_)
      · replace h := (if_pos hc).symm.trans h
        refine px_forget (n := 2) (lv' := [_, _, _]) rfl ?_
        exact (r_Layout_lay_52 @ih h :)
      · replace h := (if_neg hc).symm.trans h
        refine px_ld rfl rfl rfl rfl rfl ?_
        refine px_ld rfl rfl rfl rfl rfl ?_
        obtain ⟨t6, h0, h⟩ := xs_some h
        obtain ⟨fs, e1, e2⟩ := xgR_some h0
        refine px_get rfl e1 e2 rfl ?_
        refine px_ld rfl rfl rfl rfl rfl ?_
        refine px_alu rfl rfl rfl ?_
        obtain ⟨fs, h0, h⟩ := xs_some h
        have e1 := xo_some h0
        obtain ⟨t7, ph8, h0, h⟩ := xb_some h
        refine px_cV2 rfl rfl e1 rfl rfl rfl rfl rfl rfl rfl (r_Pool_addressIn h0 :) (fun _ _ q => nomatch q.2) (fun r ph' q => ?_)
        obtain ⟨rfl, q⟩ := q
        cases q
        obtain ⟨ph9, h0, h⟩ := xs_some h
        obtain ⟨fs, e1, e2, e3⟩ := xpJ_some h0
        subst e3
        refine px_put rfl e1 e2 trivial rfl ?_
        refine px_forget (n := 2) (lv' := [_, _, _]) rfl ?_
        exact (r_Layout_lay_52 @ih h :)
def f_Layout_lay (F : Nat) (c : px_CT) (a0 : Nat) (ph : px_H) : Option (Unit × px_H) :=
  (xo ph 2 a0).bind fun _ =>
  xb (f_Layout_gather F c a0 ph) fun _ ph1 =>
  (xo ph1 2 a0).bind fun _ =>
  xb (f_Layout_findSlots F c a0 ph1) fun _ ph2 =>
  (xo ph2 2 a0).bind fun _ =>
  xb (f_Layout_findSegments F c a0 ph2) fun _ ph3 =>
  (xo ph3 2 a0).bind fun _ =>
  xb (f_Layout_layText F c a0 ph3) fun _ ph4 =>
  f_Layout_lay_18 F c F a0 (nI 0) ph4
theorem r_Layout_lay {l : Launch} {g : px_G} {d F : Nat} {a0 : Nat} {ph : px_H} {r : Unit} {ph' : px_H} (h : f_Layout_lay F (px_ct g) a0 ph = some (r, ph')) : PW l g (d + 5) m_Layout_lay 0 [.ref a0, px_u, px_u] [] ph (px_qV r ph') := by
  unfold f_Layout_lay at h
  refine px_ld rfl rfl rfl rfl rfl ?_
  obtain ⟨fs, h0, h⟩ := xs_some h
  have e1 := xo_some h0
  obtain ⟨u0, ph1, h0, h⟩ := xb_some h
  refine px_cV0 rfl rfl e1 rfl rfl rfl rfl rfl rfl rfl (r_Layout_gather h0 :) (fun _ _ q => nomatch q.2) (fun r ph' q => ?_)
  obtain ⟨rfl, q⟩ := q
  cases q
  refine px_ld rfl rfl rfl rfl rfl ?_
  obtain ⟨fs, h0, h⟩ := xs_some h
  have e1 := xo_some h0
  obtain ⟨u0, ph2, h0, h⟩ := xb_some h
  refine px_cV0 rfl rfl e1 rfl rfl rfl rfl rfl rfl rfl (r_Layout_findSlots h0 :) (fun _ _ q => nomatch q.2) (fun r ph' q => ?_)
  obtain ⟨rfl, q⟩ := q
  cases q
  refine px_ld rfl rfl rfl rfl rfl ?_
  obtain ⟨fs, h0, h⟩ := xs_some h
  have e1 := xo_some h0
  obtain ⟨u0, ph3, h0, h⟩ := xb_some h
  refine px_cV0 rfl rfl e1 rfl rfl rfl rfl rfl rfl rfl (r_Layout_findSegments h0 :) (fun _ _ q => nomatch q.2) (fun r ph' q => ?_)
  obtain ⟨rfl, q⟩ := q
  cases q
  refine px_ld rfl rfl rfl rfl rfl ?_
  obtain ⟨fs, h0, h⟩ := xs_some h
  have e1 := xo_some h0
  obtain ⟨u0, ph4, h0, h⟩ := xb_some h
  refine px_cV0 rfl rfl e1 rfl rfl rfl rfl rfl rfl rfl (r_Layout_layText h0 :) (fun _ _ q => nomatch q.2) (fun r ph' q => ?_)
  obtain ⟨rfl, q⟩ := q
  cases q
  refine px_ic (k := 0) rfl rfl rfl ?_
  refine px_st (lv' := [_, _, _]) rfl rfl rfl rfl rfl rfl rfl ?_
  exact (r_Layout_lay_18 _ h :)
def f_Layout_isTooLarge_44 (F : Nat) (c : px_CT) (s0 : Int32) (ph : px_H) : Option (Int32 × px_H) :=
  xz s0 ph
theorem r_Layout_isTooLarge_44 {l : Launch} {g : px_G} {d F : Nat} {s0 : Int32} {ph : px_H} {r : Int32} {ph' : px_H} (h : f_Layout_isTooLarge_44 F (px_ct g) s0 ph = some (r, ph')) : PW l g (d + 0) m_Layout_isTooLarge 44 [px_u, px_u] [.int s0] ph (px_qI r ph') := by
  unfold f_Layout_isTooLarge_44 at h
  obtain ⟨e0, e1, e2⟩ := xz_some h
  subst e1 e2
  exact px_iret rfl (Or.inr ⟨rfl, e0⟩) rfl ⟨rfl, rfl⟩
def f_Layout_isTooLarge_28 (F : Nat) (c : px_CT) (a0 : Nat) (ph : px_H) : Option (Int32 × px_H) :=
  (xgJ ph 2 18 a0).bind fun t1 =>
  if t1 ≤ ((65536 : Int64)) then
    f_Layout_isTooLarge_44 F c (nI 0) ph
  else
    f_Layout_isTooLarge_44 F c (nI 1) ph
theorem r_Layout_isTooLarge_28 {l : Launch} {g : px_G} {d F : Nat} {a0 : Nat} {ph : px_H} {r : Int32} {ph' : px_H} (h : f_Layout_isTooLarge_28 F (px_ct g) a0 ph = some (r, ph')) : PW l g (d + 0) m_Layout_isTooLarge 28 [.ref a0, px_u] [] ph (px_qI r ph') := by
  unfold f_Layout_isTooLarge_28 at h
  refine px_ld rfl rfl rfl rfl rfl ?_
  obtain ⟨t1, h0, h⟩ := xs_some h
  obtain ⟨fs, e1, e2⟩ := xgJ_some h0
  refine px_get rfl e1 e2 rfl ?_
  refine px_ldc2 rfl rfl rfl ?_
  refine px_alu rfl rfl rfl ?_
  refine px_ifle rfl rfl rfl (fun hc => ?_) (fun hc => ?_)
  · replace h := (if_pos ((lg_cmp_le _ _).mp hc)).symm.trans h
    refine px_ic (k := 0) rfl rfl rfl ?_
    refine px_forget (n := 0) (lv' := [_, _]) rfl ?_
    exact (r_Layout_isTooLarge_44 h :)
  · replace h := (if_neg (fun q => hc ((lg_cmp_le _ _).mpr q))).symm.trans h
    refine px_ic (k := 1) rfl rfl rfl ?_
    refine px_goto rfl rfl rfl ?_
    refine px_forget (n := 0) (lv' := [_, _]) rfl ?_
    exact (r_Layout_isTooLarge_44 h :)
def f_Layout_isTooLarge_20 (F : Nat) (c : px_CT) (ph : px_H) : Option (Int32 × px_H) :=
  some (nI 1, ph)
theorem r_Layout_isTooLarge_20 {l : Launch} {g : px_G} {d F : Nat} {ph : px_H} {r : Int32} {ph' : px_H} (h : f_Layout_isTooLarge_20 F (px_ct g) ph = some (r, ph')) : PW l g (d + 0) m_Layout_isTooLarge 20 [px_u, px_u] [] ph (px_qI r ph') := by
  unfold f_Layout_isTooLarge_20 at h
  refine px_ic (k := 1) rfl rfl rfl ?_
  cases h
  exact px_iret rfl (Or.inr ⟨rfl, Or.inr rfl⟩) rfl ⟨rfl, rfl⟩
def f_Layout_isTooLarge_2 (F : Nat) (c : px_CT) : Nat → Nat → Int32 → px_H → Option (Int32 × px_H)
  | 0, _, _, _ => none
  | n + 1, a0, a1, ph =>
    if (nI 3) ≤ a1 then
      f_Layout_isTooLarge_28 F c a0 ph
    else
      (xgR ph 2 8 a0).bind fun t1 =>
      (xaJ ph 2 t1 a1).bind fun t2 =>
      if t2 ≤ ((65536 : Int64)) then
        f_Layout_isTooLarge_2 F c n a0 (a1 + nI 1) ph
      else
        f_Layout_isTooLarge_20 F c ph
theorem r_Layout_isTooLarge_2 {l : Launch} {g : px_G} {d F : Nat} : ∀ (n : Nat) {a0 : Nat} {a1 : Int32} {ph : px_H} {r : Int32} {ph' : px_H}, f_Layout_isTooLarge_2 F (px_ct g) n a0 a1 ph = some (r, ph') → PW l g (d + 0) m_Layout_isTooLarge 2 [.ref a0, .int a1] [] ph (px_qI r ph') := by
  intro n
  induction n with
  | zero => intro _ _ _ _ _ h; cases h
  | succ n ih =>
    intro a0 a1 ph r ph' h
    unfold f_Layout_isTooLarge_2 at h
    refine px_ld rfl rfl rfl rfl rfl ?_
    refine px_ic (k := 3) rfl rfl rfl ?_
    refine px_icge rfl rfl rfl (fun hc => ?_) (fun hc => ?_)
    · replace h := (if_pos hc).symm.trans h
      refine px_forget (n := 1) (lv' := [_, _]) rfl ?_
      exact (r_Layout_isTooLarge_28 h :)
    · replace h := (if_neg hc).symm.trans h
      refine px_ld rfl rfl rfl rfl rfl ?_
      obtain ⟨t1, h0, h⟩ := xs_some h
      obtain ⟨fs, e1, e2⟩ := xgR_some h0
      refine px_get rfl e1 e2 rfl ?_
      refine px_ld rfl rfl rfl rfl rfl ?_
      obtain ⟨t2, h0, h⟩ := xs_some h
      obtain ⟨N, f, e1, e2, e3⟩ := xaJ_some h0
      subst e3
      refine px_lald rfl e1 rfl e2 rfl ?_
      refine px_ldc2 rfl rfl rfl ?_
      refine px_alu rfl rfl rfl ?_
      refine px_ifle rfl rfl rfl (fun hc => ?_) (fun hc => ?_)
      · replace h := (if_pos ((lg_cmp_le _ _).mp hc)).symm.trans h
        refine px_iinc (lv' := [_, _]) rfl rfl rfl rfl rfl rfl ?_
        refine px_goto rfl rfl rfl ?_
        exact (ih h :)
      · replace h := (if_neg (fun q => hc ((lg_cmp_le _ _).mpr q))).symm.trans h
        refine px_forget (n := 0) (lv' := [_, _]) rfl ?_
        refine px_forget (n := 1) (lv' := [_, _]) rfl ?_
        exact (r_Layout_isTooLarge_20 h :)
def f_Layout_isTooLarge (F : Nat) (c : px_CT) (a0 : Nat) (ph : px_H) : Option (Int32 × px_H) :=
  f_Layout_isTooLarge_2 F c F a0 (nI 0) ph
theorem r_Layout_isTooLarge {l : Launch} {g : px_G} {d F : Nat} {a0 : Nat} {ph : px_H} {r : Int32} {ph' : px_H} (h : f_Layout_isTooLarge F (px_ct g) a0 ph = some (r, ph')) : PW l g (d + 0) m_Layout_isTooLarge 0 [.ref a0, px_u] [] ph (px_qI r ph') := by
  unfold f_Layout_isTooLarge at h
  refine px_ic (k := 0) rfl rfl rfl ?_
  refine px_st (lv' := [_, _]) rfl rfl rfl rfl rfl rfl rfl ?_
  exact (r_Layout_isTooLarge_2 _ h :)
def f_Row_clear (F : Nat) (c : px_CT) (a0 : Nat) (ph : px_H) : Option (Unit × px_H) :=
  (xpI ph 10 1 a0 (nI 0)).bind fun ph1 =>
  (xpZ ph1 10 2 a0 (nI 0)).bind fun ph2 =>
  some ((), ph2)
theorem r_Row_clear {l : Launch} {g : px_G} {d F : Nat} {a0 : Nat} {ph : px_H} {r : Unit} {ph' : px_H} (h : f_Row_clear F (px_ct g) a0 ph = some (r, ph')) : PW l g (d + 0) m_Row_clear 0 [.ref a0] [] ph (px_qV r ph') := by
  unfold f_Row_clear at h
  refine px_ld rfl rfl rfl rfl rfl ?_
  refine px_ic (k := 0) rfl rfl rfl ?_
  obtain ⟨ph1, h0, h⟩ := xs_some h
  obtain ⟨fs, e1, e2, e3⟩ := xpI_some h0
  subst e3
  refine px_put rfl e1 e2 trivial rfl ?_
  refine px_ld rfl rfl rfl rfl rfl ?_
  refine px_ic (k := 0) rfl rfl rfl ?_
  obtain ⟨ph2, h0, h⟩ := xs_some h
  obtain ⟨fs, e1, e2, e3, e4⟩ := xpZ_some h0
  subst e3
  refine px_put rfl e1 e2 e4 rfl ?_
  cases h
  exact px_vret rfl rfl rfl ⟨rfl, rfl⟩
def f_Row_put_63 (F : Nat) (c : px_CT) (ph : px_H) : Option (Unit × px_H) :=
  some ((), ph)
theorem r_Row_put_63 {l : Launch} {g : px_G} {d F : Nat} {ph : px_H} {r : Unit} {ph' : px_H} (h : f_Row_put_63 F (px_ct g) ph = some (r, ph')) : PW l g (d + 0) m_Row_put 63 [px_u, px_u, px_u, px_u, px_u] [] ph (px_qV r ph') := by
  unfold f_Row_put_63 at h
  cases h
  exact px_vret rfl rfl rfl ⟨rfl, rfl⟩
def f_Row_put_57 (F : Nat) (c : px_CT) (k3 : Nat → Int32 → Int64 → Int32 → px_H → Option (Unit × px_H)) (a0 : Nat) (a1 : Int32) (a2 : Int64) (a4 : Int32) (ph : px_H) : Option (Unit × px_H) :=
  k3 a0 a1 a2 (a4 + nI 1) ph
theorem r_Row_put_57 {l : Launch} {g : px_G} {d F : Nat} {k3 : Nat → Int32 → Int64 → Int32 → px_H → Option (Unit × px_H)} (hk3 : ∀ {a0 : Nat} {a1 : Int32} {a2 : Int64} {a4 : Int32} {ph : px_H} {r : Unit} {ph' : px_H}, k3 a0 a1 a2 a4 ph = some (r, ph') → PW l g (d + 0) m_Row_put 3 [.ref a0, .int a1, .long a2, px_u, .int a4] [] ph (px_qV r ph')) {a0 : Nat} {a1 : Int32} {a2 : Int64} {a4 : Int32} {ph : px_H} {r : Unit} {ph' : px_H} (h : f_Row_put_57 F (px_ct g) k3 a0 a1 a2 a4 ph = some (r, ph')) : PW l g (d + 0) m_Row_put 57 [.ref a0, .int a1, .long a2, px_u, .int a4] [] ph (px_qV r ph') := by
  unfold f_Row_put_57 at h
  refine px_iinc (lv' := [_, _, _, _, _]) rfl rfl rfl rfl rfl rfl ?_
  refine px_goto rfl rfl rfl ?_
  exact (hk3 h :)
def f_Row_put_3 (F : Nat) (c : px_CT) : Nat → Nat → Int32 → Int64 → Int32 → px_H → Option (Unit × px_H)
  | 0, _, _, _, _, _ => none
  | n + 1, a0, a1, a2, a4, ph =>
    if a1 ≤ a4 then
      f_Row_put_63 F c ph
    else
      (xgI ph 10 1 a0).bind fun t1 =>
      (xgR ph 10 0 a0).bind fun t2 =>
      (xal ph 0 t2).bind fun t3 =>
      if t3 ≤ t1 then
        (xpZ ph 10 2 a0 (nI 1)).bind fun ph4 =>
        f_Row_put_57 F c (f_Row_put_3 F c n) a0 a1 a2 a4 ph4
      else
        (xgR ph 10 0 a0).bind fun t5 =>
        (xgI ph 10 1 a0).bind fun t6 =>
        (xsI ph 0 t5 t6 (((((a2.toUInt64 >>> (((nI 8) * a4).toInt64.toUInt64 &&& Int64.toUInt64 63)).toInt64).toInt32).toInt8.toInt32).toInt8.toInt32)).bind fun ph7 =>
        (xgI ph7 10 1 a0).bind fun t8 =>
        (xpI ph7 10 1 a0 (t8 + (nI 1))).bind fun ph9 =>
        f_Row_put_57 F c (f_Row_put_3 F c n) a0 a1 a2 a4 ph9
theorem r_Row_put_3 {l : Launch} {g : px_G} {d F : Nat} : ∀ (n : Nat) {a0 : Nat} {a1 : Int32} {a2 : Int64} {a4 : Int32} {ph : px_H} {r : Unit} {ph' : px_H}, f_Row_put_3 F (px_ct g) n a0 a1 a2 a4 ph = some (r, ph') → PW l g (d + 0) m_Row_put 3 [.ref a0, .int a1, .long a2, px_u, .int a4] [] ph (px_qV r ph') := by
  intro n
  induction n with
  | zero => intro _ _ _ _ _ _ _ h; cases h
  | succ n ih =>
    intro a0 a1 a2 a4 ph r ph' h
    unfold f_Row_put_3 at h
    refine px_ld rfl rfl rfl rfl rfl ?_
    refine px_ld rfl rfl rfl rfl rfl ?_
    refine px_icge rfl rfl rfl (fun hc => ?_) (fun hc => ?_)
    · replace h := (if_pos hc).symm.trans h
      refine px_forget (n := 0) (lv' := [_, _, _, _, _]) rfl ?_
      refine px_forget (n := 1) (lv' := [_, _, _, _, _]) rfl ?_
      refine px_forget (n := 2) (lv' := [_, _, _, _, _]) rfl ?_
      refine px_forget (n := 4) (lv' := [_, _, _, _, _]) rfl ?_
      exact (r_Row_put_63 h :)
    · replace h := (if_neg hc).symm.trans h
      refine px_ld rfl rfl rfl rfl rfl ?_
      obtain ⟨t1, h0, h⟩ := xs_some h
      obtain ⟨fs, e1, e2⟩ := xgI_some h0
      refine px_get rfl e1 e2 rfl ?_
      refine px_ld rfl rfl rfl rfl rfl ?_
      obtain ⟨t2, h0, h⟩ := xs_some h
      obtain ⟨fs, e1, e2⟩ := xgR_some h0
      refine px_get rfl e1 e2 rfl ?_
      obtain ⟨t3, h0, h⟩ := xs_some h
      obtain ⟨x, e1, e3⟩ := xal_some h0
      subst e3
      refine px_alen rfl e1 rfl rfl ?_
      refine px_icge rfl rfl rfl (fun hc => ?_) (fun hc => ?_)
      · replace h := (if_pos hc).symm.trans h
        refine px_ld rfl rfl rfl rfl rfl ?_
        refine px_ic (k := 1) rfl rfl rfl ?_
        obtain ⟨ph4, h0, h⟩ := xs_some h
        obtain ⟨fs, e1, e2, e3, e4⟩ := xpZ_some h0
        subst e3
        refine px_put rfl e1 e2 e4 rfl ?_
        exact (r_Row_put_57 @ih h :)
      · replace h := (if_neg hc).symm.trans h
        refine px_ld rfl rfl rfl rfl rfl ?_
        obtain ⟨t5, h0, h⟩ := xs_some h
        obtain ⟨fs, e1, e2⟩ := xgR_some h0
        refine px_get rfl e1 e2 rfl ?_
        refine px_ld rfl rfl rfl rfl rfl ?_
        obtain ⟨t6, h0, h⟩ := xs_some h
        obtain ⟨fs, e1, e2⟩ := xgI_some h0
        refine px_get rfl e1 e2 rfl ?_
        refine px_ld rfl rfl rfl rfl rfl ?_
        refine px_ic (k := 8) rfl rfl rfl ?_
        refine px_ld rfl rfl rfl rfl rfl ?_
        refine px_alu rfl rfl rfl ?_
        refine px_alu rfl rfl rfl ?_
        refine px_alu rfl rfl rfl ?_
        refine px_alu rfl rfl rfl ?_
        obtain ⟨ph7, h0, h⟩ := xs_some h
        obtain ⟨N, f, e1, e2, e3⟩ := xsI_some h0
        subst e3
        refine px_bast rfl e1 rfl e2 rfl ?_
        refine px_ld rfl rfl rfl rfl rfl ?_
        refine px_alu rfl rfl rfl ?_
        obtain ⟨t8, h0, h⟩ := xs_some h
        obtain ⟨fs, e1, e2⟩ := xgI_some h0
        refine px_get rfl e1 e2 rfl ?_
        refine px_ic (k := 1) rfl rfl rfl ?_
        refine px_alu rfl rfl rfl ?_
        obtain ⟨ph9, h0, h⟩ := xs_some h
        obtain ⟨fs, e1, e2, e3⟩ := xpI_some h0
        subst e3
        refine px_put rfl e1 e2 trivial rfl ?_
        refine px_goto rfl rfl rfl ?_
        exact (r_Row_put_57 @ih h :)
def f_Row_put (F : Nat) (c : px_CT) (a0 : Nat) (a1 : Int32) (a2 : Int64) (ph : px_H) : Option (Unit × px_H) :=
  f_Row_put_3 F c F a0 a1 a2 (nI 0) ph
theorem r_Row_put {l : Launch} {g : px_G} {d F : Nat} {a0 : Nat} {a1 : Int32} {a2 : Int64} {ph : px_H} {r : Unit} {ph' : px_H} (h : f_Row_put F (px_ct g) a0 a1 a2 ph = some (r, ph')) : PW l g (d + 0) m_Row_put 0 [.ref a0, .int a1, .long a2, px_u, px_u] [] ph (px_qV r ph') := by
  unfold f_Row_put at h
  refine px_ic (k := 0) rfl rfl rfl ?_
  refine px_st (lv' := [_, _, _, _, _]) rfl rfl rfl rfl rfl rfl rfl ?_
  exact (r_Row_put_3 _ h :)
def f_Row_putAll_23 (F : Nat) (c : px_CT) (ph : px_H) : Option (Unit × px_H) :=
  some ((), ph)
theorem r_Row_putAll_23 {l : Launch} {g : px_G} {d F : Nat} {ph : px_H} {r : Unit} {ph' : px_H} (h : f_Row_putAll_23 F (px_ct g) ph = some (r, ph')) : PW l g (d + 1) m_Row_putAll 23 [px_u, px_u, px_u] [] ph (px_qV r ph') := by
  unfold f_Row_putAll_23 at h
  cases h
  exact px_vret rfl rfl rfl ⟨rfl, rfl⟩
def f_Row_putAll_2 (F : Nat) (c : px_CT) : Nat → Nat → Nat → Int32 → px_H → Option (Unit × px_H)
  | 0, _, _, _, _ => none
  | n + 1, a0, a1, a2, ph =>
    (xkl c a1).bind fun t1 =>
    if t1 ≤ a2 then
      f_Row_putAll_23 F c ph
    else
      (xkB c a1 a2).bind fun t2 =>
      (xo ph 10 a0).bind fun _ =>
      xb (f_Row_put F c a0 (nI 1) t2.toInt64 ph) fun _ ph3 =>
      f_Row_putAll_2 F c n a0 a1 (a2 + nI 1) ph3
theorem r_Row_putAll_2 {l : Launch} {g : px_G} {d F : Nat} : ∀ (n : Nat) {a0 : Nat} {a1 : Nat} {a2 : Int32} {ph : px_H} {r : Unit} {ph' : px_H}, f_Row_putAll_2 F (px_ct g) n a0 a1 a2 ph = some (r, ph') → PW l g (d + 1) m_Row_putAll 2 [.ref a0, .retAddr a1, .int a2] [] ph (px_qV r ph') := by
  intro n
  induction n with
  | zero => intro _ _ _ _ _ _ h; cases h
  | succ n ih =>
    intro a0 a1 a2 ph r ph' h
    unfold f_Row_putAll_2 at h
    refine px_ld rfl rfl rfl rfl rfl ?_
    refine px_ld rfl rfl rfl rfl rfl ?_
    obtain ⟨t1, h0, h⟩ := xs_some h
    obtain ⟨e0, e3⟩ := xkl_some h0
    subst e3
    refine px_clen rfl e0 rfl ?_
    refine px_icge rfl rfl rfl (fun hc => ?_) (fun hc => ?_)
    · replace h := (if_pos hc).symm.trans h
      refine px_forget (n := 0) (lv' := [_, _, _]) rfl ?_
      refine px_forget (n := 1) (lv' := [_, _, _]) rfl ?_
      refine px_forget (n := 2) (lv' := [_, _, _]) rfl ?_
      exact (r_Row_putAll_23 h :)
    · replace h := (if_neg hc).symm.trans h
      refine px_ld rfl rfl rfl rfl rfl ?_
      refine px_ic (k := 1) rfl rfl rfl ?_
      refine px_ld rfl rfl rfl rfl rfl ?_
      refine px_ld rfl rfl rfl rfl rfl ?_
      obtain ⟨t2, h0, h⟩ := xs_some h
      obtain ⟨e0, e1, e2, e3⟩ := xkB_some h0
      subst e3
      refine px_cbld rfl e0 e1 e2 rfl ?_
      refine px_alu rfl rfl rfl ?_
      obtain ⟨fs, h0, h⟩ := xs_some h
      have e1 := xo_some h0
      obtain ⟨u0, ph3, h0, h⟩ := xb_some h
      refine px_cV2 rfl rfl e1 rfl rfl rfl rfl rfl rfl rfl (r_Row_put h0 :) (fun _ _ q => nomatch q.2) (fun r ph' q => ?_)
      obtain ⟨rfl, q⟩ := q
      cases q
      refine px_iinc (lv' := [_, _, _]) rfl rfl rfl rfl rfl rfl ?_
      refine px_goto rfl rfl rfl ?_
      exact (ih h :)
def f_Row_putAll (F : Nat) (c : px_CT) (a0 : Nat) (a1 : Nat) (ph : px_H) : Option (Unit × px_H) :=
  f_Row_putAll_2 F c F a0 a1 (nI 0) ph
theorem r_Row_putAll {l : Launch} {g : px_G} {d F : Nat} {a0 : Nat} {a1 : Nat} {ph : px_H} {r : Unit} {ph' : px_H} (h : f_Row_putAll F (px_ct g) a0 a1 ph = some (r, ph')) : PW l g (d + 1) m_Row_putAll 0 [.ref a0, .retAddr a1, px_u] [] ph (px_qV r ph') := by
  unfold f_Row_putAll at h
  refine px_ic (k := 0) rfl rfl rfl ?_
  refine px_st (lv' := [_, _, _]) rfl rfl rfl rfl rfl rfl rfl ?_
  exact (r_Row_putAll_2 _ h :)
def f_Arrays_fill_3_27 (F : Nat) (c : px_CT) (ph : px_H) : Option (Unit × px_H) :=
  some ((), ph)
theorem r_Arrays_fill_3_27 {l : Launch} {g : px_G} {d F : Nat} {ph : px_H} {r : Unit} {ph' : px_H} (h : f_Arrays_fill_3_27 F (px_ct g) ph = some (r, ph')) : PW l g (d + 2) m_Arrays_fill_3 27 [px_u, px_u, px_u, px_u, px_u] [] ph (px_qV r ph') := by
  unfold f_Arrays_fill_3_27 at h
  cases h
  exact px_vret rfl rfl rfl ⟨rfl, rfl⟩
def f_Arrays_fill_3_10 (F : Nat) (c : px_CT) : Nat → Nat → Int32 → Int32 → Int32 → px_H → Option (Unit × px_H)
  | 0, _, _, _, _, _ => none
  | n + 1, a0, a2, a3, a4, ph =>
    if a2 ≤ a4 then
      f_Arrays_fill_3_27 F c ph
    else
      (xsI ph 0 a0 a4 (a3.toInt8.toInt32)).bind fun ph1 =>
      f_Arrays_fill_3_10 F c n a0 a2 a3 (a4 + nI 1) ph1
theorem r_Arrays_fill_3_10 {l : Launch} {g : px_G} {d F : Nat} : ∀ (n : Nat) {a0 : Nat} {a2 : Int32} {a3 : Int32} {a4 : Int32} {ph : px_H} {r : Unit} {ph' : px_H}, f_Arrays_fill_3_10 F (px_ct g) n a0 a2 a3 a4 ph = some (r, ph') → PW l g (d + 2) m_Arrays_fill_3 10 [.ref a0, px_u, .int a2, .int a3, .int a4] [] ph (px_qV r ph') := by
  intro n
  induction n with
  | zero => intro _ _ _ _ _ _ _ h; cases h
  | succ n ih =>
    intro a0 a2 a3 a4 ph r ph' h
    unfold f_Arrays_fill_3_10 at h
    refine px_ld rfl rfl rfl rfl rfl ?_
    refine px_ld rfl rfl rfl rfl rfl ?_
    refine px_icge rfl rfl rfl (fun hc => ?_) (fun hc => ?_)
    · replace h := (if_pos hc).symm.trans h
      refine px_forget (n := 0) (lv' := [_, _, _, _, _]) rfl ?_
      refine px_forget (n := 2) (lv' := [_, _, _, _, _]) rfl ?_
      refine px_forget (n := 3) (lv' := [_, _, _, _, _]) rfl ?_
      refine px_forget (n := 4) (lv' := [_, _, _, _, _]) rfl ?_
      exact (r_Arrays_fill_3_27 h :)
    · replace h := (if_neg hc).symm.trans h
      refine px_ld rfl rfl rfl rfl rfl ?_
      refine px_ld rfl rfl rfl rfl rfl ?_
      refine px_ld rfl rfl rfl rfl rfl ?_
      obtain ⟨ph1, h0, h⟩ := xs_some h
      obtain ⟨N, f, e1, e2, e3⟩ := xsI_some h0
      subst e3
      refine px_bast rfl e1 rfl e2 rfl ?_
      refine px_iinc (lv' := [_, _, _, _, _]) rfl rfl rfl rfl rfl rfl ?_
      refine px_goto rfl rfl rfl ?_
      exact (ih h :)
def f_Arrays_fill_3 (F : Nat) (c : px_CT) (a0 : Nat) (a1 : Int32) (a2 : Int32) (a3 : Int32) (ph : px_H) : Option (Unit × px_H) :=
  (xal ph 0 a0).bind fun t1 =>
  xb (f_Arrays_rangeCheck F c t1 a1 a2 ph) fun _ ph2 =>
  f_Arrays_fill_3_10 F c F a0 a2 a3 a1 ph2
theorem r_Arrays_fill_3 {l : Launch} {g : px_G} {d F : Nat} {a0 : Nat} {a1 : Int32} {a2 : Int32} {a3 : Int32} {ph : px_H} {r : Unit} {ph' : px_H} (h : f_Arrays_fill_3 F (px_ct g) a0 a1 a2 a3 ph = some (r, ph')) : PW l g (d + 2) m_Arrays_fill_3 0 [.ref a0, .int a1, .int a2, .int a3, px_u] [] ph (px_qV r ph') := by
  unfold f_Arrays_fill_3 at h
  refine px_ld rfl rfl rfl rfl rfl ?_
  obtain ⟨t1, h0, h⟩ := xs_some h
  obtain ⟨x, e1, e3⟩ := xal_some h0
  subst e3
  refine px_alen rfl e1 rfl rfl ?_
  refine px_ld rfl rfl rfl rfl rfl ?_
  refine px_ld rfl rfl rfl rfl rfl ?_
  obtain ⟨u0, ph2, h0, h⟩ := xb_some h
  refine px_cS3 rfl rfl rfl rfl rfl rfl rfl (r_Arrays_rangeCheck h0 :) (fun _ _ q => nomatch q.2) (fun r ph' q => ?_)
  obtain ⟨rfl, q⟩ := q
  cases q
  refine px_ld rfl rfl rfl rfl rfl ?_
  refine px_st (lv' := [_, _, _, _, _]) rfl rfl rfl rfl rfl rfl rfl ?_
  refine px_forget (n := 1) (lv' := [_, _, _, _, _]) rfl ?_
  exact (r_Arrays_fill_3_10 _ h :)
def f_Row_fillTo_59 (F : Nat) (c : px_CT) (ph : px_H) : Option (Unit × px_H) :=
  some ((), ph)
theorem r_Row_fillTo_59 {l : Launch} {g : px_G} {d F : Nat} {ph : px_H} {r : Unit} {ph' : px_H} (h : f_Row_fillTo_59 F (px_ct g) ph = some (r, ph')) : PW l g (d + 3) m_Row_fillTo 59 [px_u, px_u, px_u, px_u, px_u] [] ph (px_qV r ph') := by
  unfold f_Row_fillTo_59 at h
  cases h
  exact px_vret rfl rfl rfl ⟨rfl, rfl⟩
def f_Row_fillTo_16 (F : Nat) (c : px_CT) (a0 : Nat) (a1 : Int64) (a3 : Int32) (ph : px_H) : Option (Unit × px_H) :=
  (xgR ph 10 0 a0).bind fun t1 =>
  (xal ph 0 t1).bind fun t2 =>
  (xgI ph 10 1 a0).bind fun t3 =>
  if ((if t2.toInt64 < a1 then t2.toInt64 else a1).toInt32) ≤ t3 then
    f_Row_fillTo_59 F c ph
  else
    (xgR ph 10 0 a0).bind fun t4 =>
    (xgI ph 10 1 a0).bind fun t5 =>
    xb (f_Arrays_fill_3 F c t4 t5 ((if t2.toInt64 < a1 then t2.toInt64 else a1).toInt32) a3.toInt8.toInt32 ph) fun _ ph6 =>
    (xpI ph6 10 1 a0 ((if t2.toInt64 < a1 then t2.toInt64 else a1).toInt32)).bind fun ph7 =>
    f_Row_fillTo_59 F c ph7
theorem r_Row_fillTo_16 {l : Launch} {g : px_G} {d F : Nat} {a0 : Nat} {a1 : Int64} {a3 : Int32} {ph : px_H} {r : Unit} {ph' : px_H} (h : f_Row_fillTo_16 F (px_ct g) a0 a1 a3 ph = some (r, ph')) : PW l g (d + 3) m_Row_fillTo 16 [.ref a0, .long a1, px_u, .int a3, px_u] [] ph (px_qV r ph') := by
  unfold f_Row_fillTo_16 at h
  refine px_ld rfl rfl rfl rfl rfl ?_
  refine px_ld rfl rfl rfl rfl rfl ?_
  obtain ⟨t1, h0, h⟩ := xs_some h
  obtain ⟨fs, e1, e2⟩ := xgR_some h0
  refine px_get rfl e1 e2 rfl ?_
  obtain ⟨t2, h0, h⟩ := xs_some h
  obtain ⟨x, e1, e3⟩ := xal_some h0
  subst e3
  refine px_alen rfl e1 rfl rfl ?_
  refine px_alu rfl rfl rfl ?_
  refine px_minl rfl rfl rfl ?_
  refine px_alu rfl rfl rfl ?_
  refine px_st (lv' := [_, _, _, _, _]) rfl rfl rfl rfl rfl rfl rfl ?_
  refine px_ld rfl rfl rfl rfl rfl ?_
  refine px_ld rfl rfl rfl rfl rfl ?_
  obtain ⟨t3, h0, h⟩ := xs_some h
  obtain ⟨fs, e1, e2⟩ := xgI_some h0
  refine px_get rfl e1 e2 rfl ?_
  refine px_icle rfl rfl rfl (fun hc => ?_) (fun hc => ?_)
  · replace h := (if_pos hc).symm.trans h
    refine px_forget (n := 0) (lv' := [_, _, _, _, _]) rfl ?_
    refine px_forget (n := 1) (lv' := [_, _, _, _, _]) rfl ?_
    refine px_forget (n := 3) (lv' := [_, _, _, _, _]) rfl ?_
    refine px_forget (n := 4) (lv' := [_, _, _, _, _]) rfl ?_
    exact (r_Row_fillTo_59 h :)
  · replace h := (if_neg hc).symm.trans h
    refine px_ld rfl rfl rfl rfl rfl ?_
    obtain ⟨t4, h0, h⟩ := xs_some h
    obtain ⟨fs, e1, e2⟩ := xgR_some h0
    refine px_get rfl e1 e2 rfl ?_
    refine px_ld rfl rfl rfl rfl rfl ?_
    obtain ⟨t5, h0, h⟩ := xs_some h
    obtain ⟨fs, e1, e2⟩ := xgI_some h0
    refine px_get rfl e1 e2 rfl ?_
    refine px_ld rfl rfl rfl rfl rfl ?_
    refine px_ld rfl rfl rfl rfl rfl ?_
    refine px_alu rfl rfl rfl ?_
    obtain ⟨u0, ph6, h0, h⟩ := xb_some h
    refine px_cS4 rfl rfl rfl rfl rfl rfl rfl (r_Arrays_fill_3 h0 :) (fun _ _ q => nomatch q.2) (fun r ph' q => ?_)
    obtain ⟨rfl, q⟩ := q
    cases q
    refine px_ld rfl rfl rfl rfl rfl ?_
    refine px_ld rfl rfl rfl rfl rfl ?_
    obtain ⟨ph7, h0, h⟩ := xs_some h
    obtain ⟨fs, e1, e2, e3⟩ := xpI_some h0
    subst e3
    refine px_put rfl e1 e2 trivial rfl ?_
    refine px_forget (n := 0) (lv' := [_, _, _, _, _]) rfl ?_
    refine px_forget (n := 1) (lv' := [_, _, _, _, _]) rfl ?_
    refine px_forget (n := 3) (lv' := [_, _, _, _, _]) rfl ?_
    refine px_forget (n := 4) (lv' := [_, _, _, _, _]) rfl ?_
    exact (r_Row_fillTo_59 h :)
def f_Row_fillTo (F : Nat) (c : px_CT) (a0 : Nat) (a1 : Int64) (a3 : Int32) (ph : px_H) : Option (Unit × px_H) :=
  (xgR ph 10 0 a0).bind fun t1 =>
  (xal ph 0 t1).bind fun t2 =>
  if a1 ≤ t2.toInt64 then
    f_Row_fillTo_16 F c a0 a1 a3 ph
  else
    (xpZ ph 10 2 a0 (nI 1)).bind fun ph3 =>
    f_Row_fillTo_16 F c a0 a1 a3 ph3
theorem r_Row_fillTo {l : Launch} {g : px_G} {d F : Nat} {a0 : Nat} {a1 : Int64} {a3 : Int32} {ph : px_H} {r : Unit} {ph' : px_H} (h : f_Row_fillTo F (px_ct g) a0 a1 a3 ph = some (r, ph')) : PW l g (d + 3) m_Row_fillTo 0 [.ref a0, .long a1, px_u, .int a3, px_u] [] ph (px_qV r ph') := by
  unfold f_Row_fillTo at h
  refine px_ld rfl rfl rfl rfl rfl ?_
  refine px_ld rfl rfl rfl rfl rfl ?_
  obtain ⟨t1, h0, h⟩ := xs_some h
  obtain ⟨fs, e1, e2⟩ := xgR_some h0
  refine px_get rfl e1 e2 rfl ?_
  obtain ⟨t2, h0, h⟩ := xs_some h
  obtain ⟨x, e1, e3⟩ := xal_some h0
  subst e3
  refine px_alen rfl e1 rfl rfl ?_
  refine px_alu rfl rfl rfl ?_
  refine px_alu rfl rfl rfl ?_
  refine px_ifle rfl rfl rfl (fun hc => ?_) (fun hc => ?_)
  · replace h := (if_pos ((lg_cmp_le _ _).mp hc)).symm.trans h
    exact (r_Row_fillTo_16 h :)
  · replace h := (if_neg (fun q => hc ((lg_cmp_le _ _).mpr q))).symm.trans h
    refine px_ld rfl rfl rfl rfl rfl ?_
    refine px_ic (k := 1) rfl rfl rfl ?_
    obtain ⟨ph3, h0, h⟩ := xs_some h
    obtain ⟨fs, e1, e2, e3, e4⟩ := xpZ_some h0
    subst e3
    refine px_put rfl e1 e2 e4 rfl ?_
    exact (r_Row_fillTo_16 h :)
def f_Filler_writeHead_180 (F : Nat) (c : px_CT) (a0 : Nat) (s0 : Nat) (s1 : Int32) (s2 : Int32) (s3 : Int32) (ph : px_H) : Option (Unit × px_H) :=
  (xo ph 10 s0).bind fun _ =>
  xb (f_Row_put F c s0 s1 ((s2 + s3).toInt64) ph) fun _ ph1 =>
  (xgR ph1 1 4 a0).bind fun t2 =>
  (xo ph1 10 t2).bind fun _ =>
  xb (f_Row_put F c t2 (nI 6) (lN 0) ph1) fun _ ph3 =>
  some ((), ph3)
theorem r_Filler_writeHead_180 {l : Launch} {g : px_G} {d F : Nat} {a0 : Nat} {s0 : Nat} {s1 : Int32} {s2 : Int32} {s3 : Int32} {ph : px_H} {r : Unit} {ph' : px_H} (h : f_Filler_writeHead_180 F (px_ct g) a0 s0 s1 s2 s3 ph = some (r, ph')) : PW l g (d + 4) m_Filler_writeHead 180 [.ref a0, px_u] [.int s3, .int s2, .int s1, .ref s0] ph (px_qV r ph') := by
  unfold f_Filler_writeHead_180 at h
  refine px_alu rfl rfl rfl ?_
  refine px_alu rfl rfl rfl ?_
  obtain ⟨fs, h0, h⟩ := xs_some h
  have e1 := xo_some h0
  obtain ⟨u0, ph1, h0, h⟩ := xb_some h
  refine px_cV2 rfl rfl e1 rfl rfl rfl rfl rfl rfl rfl (r_Row_put h0 :) (fun _ _ q => nomatch q.2) (fun r ph' q => ?_)
  obtain ⟨rfl, q⟩ := q
  cases q
  refine px_ld rfl rfl rfl rfl rfl ?_
  obtain ⟨t2, h0, h⟩ := xs_some h
  obtain ⟨fs, e1, e2⟩ := xgR_some h0
  refine px_get rfl e1 e2 rfl ?_
  refine px_ic (k := 6) rfl rfl rfl ?_
  refine px_alu rfl rfl rfl ?_
  obtain ⟨fs, h0, h⟩ := xs_some h
  have e1 := xo_some h0
  obtain ⟨u0, ph3, h0, h⟩ := xb_some h
  refine px_cV2 rfl rfl e1 rfl rfl rfl rfl rfl rfl rfl (r_Row_put h0 :) (fun _ _ q => nomatch q.2) (fun r ph' q => ?_)
  obtain ⟨rfl, q⟩ := q
  cases q
  cases h
  exact px_vret rfl rfl rfl ⟨rfl, rfl⟩
def f_Filler_writeHead_95 (F : Nat) (c : px_CT) (a0 : Nat) (s0 : Nat) (s1 : Int32) (s2 : Int64) (ph : px_H) : Option (Unit × px_H) :=
  (xo ph 10 s0).bind fun _ =>
  xb (f_Row_put F c s0 s1 s2 ph) fun _ ph1 =>
  (xgR ph1 1 4 a0).bind fun t2 =>
  (xo ph1 10 t2).bind fun _ =>
  xb (f_Row_put F c t2 (nI 8) ((64 : Int64)) ph1) fun _ ph3 =>
  (xgR ph3 1 4 a0).bind fun t4 =>
  (xo ph3 10 t4).bind fun _ =>
  xb (f_Row_put F c t4 (nI 8) (lN 0) ph3) fun _ ph5 =>
  (xgR ph5 1 4 a0).bind fun t6 =>
  (xo ph5 10 t6).bind fun _ =>
  xb (f_Row_put F c t6 (nI 4) (lN 0) ph5) fun _ ph7 =>
  (xgR ph7 1 4 a0).bind fun t8 =>
  (xo ph7 10 t8).bind fun _ =>
  xb (f_Row_put F c t8 (nI 2) ((64 : Int64)) ph7) fun _ ph9 =>
  (xgR ph9 1 4 a0).bind fun t10 =>
  (xo ph9 10 t10).bind fun _ =>
  xb (f_Row_put F c t10 (nI 2) ((56 : Int64)) ph9) fun _ ph11 =>
  (xgR ph11 1 4 a0).bind fun t12 =>
  (xgR ph11 1 1 a0).bind fun t13 =>
  (xo ph11 2 t13).bind fun _ =>
  xb (f_Layout_countSegments F c t13 ph11) fun t14 ph15 =>
  (xgR ph15 1 1 a0).bind fun t16 =>
  (xgR ph15 2 4 t16).bind fun t17 =>
  (xaI ph15 3 t17 (nI 3)).bind fun t18 =>
  if t18 = 0 then
    f_Filler_writeHead_180 F c a0 t12 (nI 2) t14 (nI 0) ph15
  else
    f_Filler_writeHead_180 F c a0 t12 (nI 2) t14 (nI 1) ph15
theorem r_Filler_writeHead_95 {l : Launch} {g : px_G} {d F : Nat} {a0 : Nat} {s0 : Nat} {s1 : Int32} {s2 : Int64} {ph : px_H} {r : Unit} {ph' : px_H} (h : f_Filler_writeHead_95 F (px_ct g) a0 s0 s1 s2 ph = some (r, ph')) : PW l g (d + 4) m_Filler_writeHead 95 [.ref a0, px_u] [.long s2, .int s1, .ref s0] ph (px_qV r ph') := by
  unfold f_Filler_writeHead_95 at h
  obtain ⟨fs, h0, h⟩ := xs_some h
  have e1 := xo_some h0
  obtain ⟨u0, ph1, h0, h⟩ := xb_some h
  refine px_cV2 rfl rfl e1 rfl rfl rfl rfl rfl rfl rfl (r_Row_put h0 :) (fun _ _ q => nomatch q.2) (fun r ph' q => ?_)
  obtain ⟨rfl, q⟩ := q
  cases q
  refine px_ld rfl rfl rfl rfl rfl ?_
  obtain ⟨t2, h0, h⟩ := xs_some h
  obtain ⟨fs, e1, e2⟩ := xgR_some h0
  refine px_get rfl e1 e2 rfl ?_
  refine px_ic (k := 8) rfl rfl rfl ?_
  refine px_ldc2 rfl rfl rfl ?_
  obtain ⟨fs, h0, h⟩ := xs_some h
  have e1 := xo_some h0
  obtain ⟨u0, ph3, h0, h⟩ := xb_some h
  refine px_cV2 rfl rfl e1 rfl rfl rfl rfl rfl rfl rfl (r_Row_put h0 :) (fun _ _ q => nomatch q.2) (fun r ph' q => ?_)
  obtain ⟨rfl, q⟩ := q
  cases q
  refine px_ld rfl rfl rfl rfl rfl ?_
  obtain ⟨t4, h0, h⟩ := xs_some h
  obtain ⟨fs, e1, e2⟩ := xgR_some h0
  refine px_get rfl e1 e2 rfl ?_
  refine px_ic (k := 8) rfl rfl rfl ?_
  refine px_alu rfl rfl rfl ?_
  obtain ⟨fs, h0, h⟩ := xs_some h
  have e1 := xo_some h0
  obtain ⟨u0, ph5, h0, h⟩ := xb_some h
  refine px_cV2 rfl rfl e1 rfl rfl rfl rfl rfl rfl rfl (r_Row_put h0 :) (fun _ _ q => nomatch q.2) (fun r ph' q => ?_)
  obtain ⟨rfl, q⟩ := q
  cases q
  refine px_ld rfl rfl rfl rfl rfl ?_
  obtain ⟨t6, h0, h⟩ := xs_some h
  obtain ⟨fs, e1, e2⟩ := xgR_some h0
  refine px_get rfl e1 e2 rfl ?_
  refine px_ic (k := 4) rfl rfl rfl ?_
  refine px_alu rfl rfl rfl ?_
  obtain ⟨fs, h0, h⟩ := xs_some h
  have e1 := xo_some h0
  obtain ⟨u0, ph7, h0, h⟩ := xb_some h
  refine px_cV2 rfl rfl e1 rfl rfl rfl rfl rfl rfl rfl (r_Row_put h0 :) (fun _ _ q => nomatch q.2) (fun r ph' q => ?_)
  obtain ⟨rfl, q⟩ := q
  cases q
  refine px_ld rfl rfl rfl rfl rfl ?_
  obtain ⟨t8, h0, h⟩ := xs_some h
  obtain ⟨fs, e1, e2⟩ := xgR_some h0
  refine px_get rfl e1 e2 rfl ?_
  refine px_ic (k := 2) rfl rfl rfl ?_
  refine px_ldc2 rfl rfl rfl ?_
  obtain ⟨fs, h0, h⟩ := xs_some h
  have e1 := xo_some h0
  obtain ⟨u0, ph9, h0, h⟩ := xb_some h
  refine px_cV2 rfl rfl e1 rfl rfl rfl rfl rfl rfl rfl (r_Row_put h0 :) (fun _ _ q => nomatch q.2) (fun r ph' q => ?_)
  obtain ⟨rfl, q⟩ := q
  cases q
  refine px_ld rfl rfl rfl rfl rfl ?_
  obtain ⟨t10, h0, h⟩ := xs_some h
  obtain ⟨fs, e1, e2⟩ := xgR_some h0
  refine px_get rfl e1 e2 rfl ?_
  refine px_ic (k := 2) rfl rfl rfl ?_
  refine px_ldc2 rfl rfl rfl ?_
  obtain ⟨fs, h0, h⟩ := xs_some h
  have e1 := xo_some h0
  obtain ⟨u0, ph11, h0, h⟩ := xb_some h
  refine px_cV2 rfl rfl e1 rfl rfl rfl rfl rfl rfl rfl (r_Row_put h0 :) (fun _ _ q => nomatch q.2) (fun r ph' q => ?_)
  obtain ⟨rfl, q⟩ := q
  cases q
  refine px_ld rfl rfl rfl rfl rfl ?_
  obtain ⟨t12, h0, h⟩ := xs_some h
  obtain ⟨fs, e1, e2⟩ := xgR_some h0
  refine px_get rfl e1 e2 rfl ?_
  refine px_ic (k := 2) rfl rfl rfl ?_
  refine px_ld rfl rfl rfl rfl rfl ?_
  obtain ⟨t13, h0, h⟩ := xs_some h
  obtain ⟨fs, e1, e2⟩ := xgR_some h0
  refine px_get rfl e1 e2 rfl ?_
  obtain ⟨fs, h0, h⟩ := xs_some h
  have e1 := xo_some h0
  obtain ⟨t14, ph15, h0, h⟩ := xb_some h
  refine px_cV0 rfl rfl e1 rfl rfl rfl rfl rfl rfl rfl (r_Layout_countSegments h0 :) (fun _ _ q => nomatch q.2) (fun r ph' q => ?_)
  obtain ⟨rfl, q⟩ := q
  cases q
  refine px_ld rfl rfl rfl rfl rfl ?_
  obtain ⟨t16, h0, h⟩ := xs_some h
  obtain ⟨fs, e1, e2⟩ := xgR_some h0
  refine px_get rfl e1 e2 rfl ?_
  obtain ⟨t17, h0, h⟩ := xs_some h
  obtain ⟨fs, e1, e2⟩ := xgR_some h0
  refine px_get rfl e1 e2 rfl ?_
  refine px_ic (k := 3) rfl rfl rfl ?_
  obtain ⟨t18, h0, h⟩ := xs_some h
  obtain ⟨N, f, e1, e2, e3⟩ := xaI_some h0
  subst e3
  refine px_zald rfl e1 rfl e2 rfl ?_
  refine px_ifeq rfl (by decide) rfl (fun hc => ?_) (fun hc => ?_)
  · replace h := (if_pos hc).symm.trans h
    refine px_ic (k := 0) rfl rfl rfl ?_
    exact (r_Filler_writeHead_180 h :)
  · replace h := (if_neg hc).symm.trans h
    refine px_ic (k := 1) rfl rfl rfl ?_
    refine px_goto rfl (by decide) rfl ?_
    exact (r_Filler_writeHead_180 h :)
def f_Filler_writeHead (F : Nat) (c : px_CT) (a0 : Nat) (ph : px_H) : Option (Unit × px_H) :=
  (xgR ph 1 0 a0).bind fun t1 =>
  (xgR ph 3 3 t1).bind fun t2 =>
  (xgR ph 1 0 a0).bind fun t3 =>
  (xgR ph 3 12 t3).bind fun t4 =>
  (xo ph 6 t2).bind fun _ =>
  xb (f_Names_find F c t2 (some t4) ph) fun t5 ph6 =>
  (xgR ph6 1 4 a0).bind fun t7 =>
  (xo ph6 10 t7).bind fun _ =>
  xb (f_Row_clear F c t7 ph6) fun _ ph8 =>
  (xgR ph8 1 4 a0).bind fun t9 =>
  (xo ph8 10 t9).bind fun _ =>
  xb (f_Row_putAll F c t9 3 ph8) fun _ ph10 =>
  (xgR ph10 1 4 a0).bind fun t11 =>
  (xo ph10 10 t11).bind fun _ =>
  xb (f_Row_fillTo F c t11 ((16 : Int64)) (nI 0) ph10) fun _ ph12 =>
  (xgR ph12 1 4 a0).bind fun t13 =>
  (xo ph12 10 t13).bind fun _ =>
  xb (f_Row_put F c t13 (nI 2) ((2 : Int64)) ph12) fun _ ph14 =>
  (xgR ph14 1 4 a0).bind fun t15 =>
  (xo ph14 10 t15).bind fun _ =>
  xb (f_Row_put F c t15 (nI 2) ((62 : Int64)) ph14) fun _ ph16 =>
  (xgR ph16 1 4 a0).bind fun t17 =>
  (xo ph16 10 t17).bind fun _ =>
  xb (f_Row_put F c t17 (nI 4) (lN 1) ph16) fun _ ph18 =>
  (xgR ph18 1 4 a0).bind fun t19 =>
  (match t5 with
    | none => f_Filler_writeHead_95 F c a0 t19 (nI 8) (lN 0) ph18
    | some p20 => (xgJ ph18 5 14 p20).bind fun t21 =>
    f_Filler_writeHead_95 F c a0 t19 (nI 8) t21 ph18)
theorem r_Filler_writeHead {l : Launch} {g : px_G} {d F : Nat} {a0 : Nat} {ph : px_H} {r : Unit} {ph' : px_H} (h : f_Filler_writeHead F (px_ct g) a0 ph = some (r, ph')) : PW l g (d + 4) m_Filler_writeHead 0 [.ref a0, px_u] [] ph (px_qV r ph') := by
  unfold f_Filler_writeHead at h
  refine px_ld rfl rfl rfl rfl rfl ?_
  obtain ⟨t1, h0, h⟩ := xs_some h
  obtain ⟨fs, e1, e2⟩ := xgR_some h0
  refine px_get rfl e1 e2 rfl ?_
  obtain ⟨t2, h0, h⟩ := xs_some h
  obtain ⟨fs, e1, e2⟩ := xgR_some h0
  refine px_get rfl e1 e2 rfl ?_
  refine px_ld rfl rfl rfl rfl rfl ?_
  obtain ⟨t3, h0, h⟩ := xs_some h
  obtain ⟨fs, e1, e2⟩ := xgR_some h0
  refine px_get rfl e1 e2 rfl ?_
  obtain ⟨t4, h0, h⟩ := xs_some h
  obtain ⟨fs, e1, e2⟩ := xgR_some h0
  refine px_get rfl e1 e2 rfl ?_
  obtain ⟨fs, h0, h⟩ := xs_some h
  have e1 := xo_some h0
  obtain ⟨t5, ph6, h0, h⟩ := xb_some h
  refine px_cV1 rfl rfl e1 rfl rfl rfl rfl rfl rfl rfl (r_Names_find h0 :) (fun _ _ q => nomatch q.2) (fun r ph' q => ?_)
  obtain ⟨rfl, q⟩ := q
  cases q
  refine px_st (lv' := [.ref a0, va_rf t5]) rfl rfl (by first | rfl | (cases t5 <;> rfl)) (by first | rfl | (cases t5 <;> rfl)) rfl (by first | rfl | (cases t5 <;> rfl)) rfl ?_
  refine px_ld rfl rfl rfl rfl rfl ?_
  obtain ⟨t7, h0, h⟩ := xs_some h
  obtain ⟨fs, e1, e2⟩ := xgR_some h0
  refine px_get rfl e1 e2 rfl ?_
  obtain ⟨fs, h0, h⟩ := xs_some h
  have e1 := xo_some h0
  obtain ⟨u0, ph8, h0, h⟩ := xb_some h
  refine px_cV0 rfl rfl e1 rfl rfl rfl rfl rfl rfl rfl (r_Row_clear h0 :) (fun _ _ q => nomatch q.2) (fun r ph' q => ?_)
  obtain ⟨rfl, q⟩ := q
  cases q
  refine px_ld rfl rfl rfl rfl rfl ?_
  obtain ⟨t9, h0, h⟩ := xs_some h
  obtain ⟨fs, e1, e2⟩ := xgR_some h0
  refine px_get rfl e1 e2 rfl ?_
  refine px_gets rfl rfl ?_
  obtain ⟨fs, h0, h⟩ := xs_some h
  have e1 := xo_some h0
  obtain ⟨u0, ph10, h0, h⟩ := xb_some h
  refine px_cV1 rfl rfl e1 rfl rfl rfl rfl rfl rfl rfl (r_Row_putAll h0 :) (fun _ _ q => nomatch q.2) (fun r ph' q => ?_)
  obtain ⟨rfl, q⟩ := q
  cases q
  refine px_ld rfl rfl rfl rfl rfl ?_
  obtain ⟨t11, h0, h⟩ := xs_some h
  obtain ⟨fs, e1, e2⟩ := xgR_some h0
  refine px_get rfl e1 e2 rfl ?_
  refine px_ldc2 rfl rfl rfl ?_
  refine px_ic (k := 0) rfl rfl rfl ?_
  obtain ⟨fs, h0, h⟩ := xs_some h
  have e1 := xo_some h0
  obtain ⟨u0, ph12, h0, h⟩ := xb_some h
  refine px_cV2 rfl rfl e1 rfl rfl rfl rfl rfl rfl rfl (r_Row_fillTo h0 :) (fun _ _ q => nomatch q.2) (fun r ph' q => ?_)
  obtain ⟨rfl, q⟩ := q
  cases q
  refine px_ld rfl rfl rfl rfl rfl ?_
  obtain ⟨t13, h0, h⟩ := xs_some h
  obtain ⟨fs, e1, e2⟩ := xgR_some h0
  refine px_get rfl e1 e2 rfl ?_
  refine px_ic (k := 2) rfl rfl rfl ?_
  refine px_ldc2 rfl rfl rfl ?_
  obtain ⟨fs, h0, h⟩ := xs_some h
  have e1 := xo_some h0
  obtain ⟨u0, ph14, h0, h⟩ := xb_some h
  refine px_cV2 rfl rfl e1 rfl rfl rfl rfl rfl rfl rfl (r_Row_put h0 :) (fun _ _ q => nomatch q.2) (fun r ph' q => ?_)
  obtain ⟨rfl, q⟩ := q
  cases q
  refine px_ld rfl rfl rfl rfl rfl ?_
  obtain ⟨t15, h0, h⟩ := xs_some h
  obtain ⟨fs, e1, e2⟩ := xgR_some h0
  refine px_get rfl e1 e2 rfl ?_
  refine px_ic (k := 2) rfl rfl rfl ?_
  refine px_ldc2 rfl rfl rfl ?_
  obtain ⟨fs, h0, h⟩ := xs_some h
  have e1 := xo_some h0
  obtain ⟨u0, ph16, h0, h⟩ := xb_some h
  refine px_cV2 rfl rfl e1 rfl rfl rfl rfl rfl rfl rfl (r_Row_put h0 :) (fun _ _ q => nomatch q.2) (fun r ph' q => ?_)
  obtain ⟨rfl, q⟩ := q
  cases q
  refine px_ld rfl rfl rfl rfl rfl ?_
  obtain ⟨t17, h0, h⟩ := xs_some h
  obtain ⟨fs, e1, e2⟩ := xgR_some h0
  refine px_get rfl e1 e2 rfl ?_
  refine px_ic (k := 4) rfl rfl rfl ?_
  refine px_alu rfl rfl rfl ?_
  obtain ⟨fs, h0, h⟩ := xs_some h
  have e1 := xo_some h0
  obtain ⟨u0, ph18, h0, h⟩ := xb_some h
  refine px_cV2 rfl rfl e1 rfl rfl rfl rfl rfl rfl rfl (r_Row_put h0 :) (fun _ _ q => nomatch q.2) (fun r ph' q => ?_)
  obtain ⟨rfl, q⟩ := q
  cases q
  refine px_ld rfl rfl rfl rfl rfl ?_
  obtain ⟨t19, h0, h⟩ := xs_some h
  obtain ⟨fs, e1, e2⟩ := xgR_some h0
  refine px_get rfl e1 e2 rfl ?_
  refine px_ic (k := 8) rfl rfl rfl ?_
  refine px_ld rfl rfl rfl (by first | rfl | (cases t5 <;> rfl)) rfl ?_
  cases t5 with
  | none =>
    refine px_ifnnN rfl rfl ?_
    refine px_alu rfl rfl rfl ?_
    refine px_goto rfl (by decide) rfl ?_
    refine px_forget (n := 1) (lv' := [_, _]) rfl ?_
    exact (r_Filler_writeHead_95 h :)
  | some p20 =>
    refine px_ifnnR rfl (by decide) rfl ?_
    refine px_ld rfl rfl rfl rfl rfl ?_
    obtain ⟨t21, h0, h⟩ := xs_some h
    obtain ⟨fs, e1, e2⟩ := xgJ_some h0
    refine px_get rfl e1 e2 rfl ?_
    refine px_forget (n := 1) (lv' := [_, _]) rfl ?_
    exact (r_Filler_writeHead_95 h :)
def f_Filler_writeRow (F : Nat) (c : px_CT) (a0 : Nat) (a1 : Int32) (a2 : Int32) (a3 : Int32) (a4 : Int64) (ph : px_H) : Option (Unit × px_H) :=
  (xgR ph 1 4 a0).bind fun t1 =>
  (xo ph 10 t1).bind fun _ =>
  xb (f_Row_put F c t1 (nI 4) a1.toInt64 ph) fun _ ph2 =>
  (xgR ph2 1 4 a0).bind fun t3 =>
  (xo ph2 10 t3).bind fun _ =>
  xb (f_Row_put F c t3 (nI 4) a2.toInt64 ph2) fun _ ph4 =>
  (xgR ph4 1 4 a0).bind fun t5 =>
  (xgR ph4 1 1 a0).bind fun t6 =>
  (xgR ph4 2 5 t6).bind fun t7 =>
  (xaJ ph4 2 t7 a3).bind fun t8 =>
  (xo ph4 10 t5).bind fun _ =>
  xb (f_Row_put F c t5 (nI 8) t8 ph4) fun _ ph9 =>
  (xgR ph9 1 4 a0).bind fun t10 =>
  (xgR ph9 1 1 a0).bind fun t11 =>
  (xgR ph9 2 6 t11).bind fun t12 =>
  (xaJ ph9 2 t12 a3).bind fun t13 =>
  (xo ph9 10 t10).bind fun _ =>
  xb (f_Row_put F c t10 (nI 8) t13 ph9) fun _ ph14 =>
  (xgR ph14 1 4 a0).bind fun t15 =>
  (xgR ph14 1 1 a0).bind fun t16 =>
  (xgR ph14 2 6 t16).bind fun t17 =>
  (xaJ ph14 2 t17 a3).bind fun t18 =>
  (xo ph14 10 t15).bind fun _ =>
  xb (f_Row_put F c t15 (nI 8) t18 ph14) fun _ ph19 =>
  (xgR ph19 1 4 a0).bind fun t20 =>
  (xgR ph19 1 1 a0).bind fun t21 =>
  (xgR ph19 2 7 t21).bind fun t22 =>
  (xaJ ph19 2 t22 a3).bind fun t23 =>
  (xo ph19 10 t20).bind fun _ =>
  xb (f_Row_put F c t20 (nI 8) t23 ph19) fun _ ph24 =>
  (xgR ph24 1 4 a0).bind fun t25 =>
  (xgR ph24 1 1 a0).bind fun t26 =>
  (xgR ph24 2 8 t26).bind fun t27 =>
  (xaJ ph24 2 t27 a3).bind fun t28 =>
  (xo ph24 10 t25).bind fun _ =>
  xb (f_Row_put F c t25 (nI 8) t28 ph24) fun _ ph29 =>
  (xgR ph29 1 4 a0).bind fun t30 =>
  (xo ph29 10 t30).bind fun _ =>
  xb (f_Row_put F c t30 (nI 8) a4 ph29) fun _ ph31 =>
  some ((), ph31)
theorem r_Filler_writeRow {l : Launch} {g : px_G} {d F : Nat} {a0 : Nat} {a1 : Int32} {a2 : Int32} {a3 : Int32} {a4 : Int64} {ph : px_H} {r : Unit} {ph' : px_H} (h : f_Filler_writeRow F (px_ct g) a0 a1 a2 a3 a4 ph = some (r, ph')) : PW l g (d + 1) m_Filler_writeRow 0 [.ref a0, .int a1, .int a2, .int a3, .long a4, px_u] [] ph (px_qV r ph') := by
  unfold f_Filler_writeRow at h
  refine px_ld rfl rfl rfl rfl rfl ?_
  obtain ⟨t1, h0, h⟩ := xs_some h
  obtain ⟨fs, e1, e2⟩ := xgR_some h0
  refine px_get rfl e1 e2 rfl ?_
  refine px_ic (k := 4) rfl rfl rfl ?_
  refine px_ld rfl rfl rfl rfl rfl ?_
  refine px_alu rfl rfl rfl ?_
  obtain ⟨fs, h0, h⟩ := xs_some h
  have e1 := xo_some h0
  obtain ⟨u0, ph2, h0, h⟩ := xb_some h
  refine px_cV2 rfl rfl e1 rfl rfl rfl rfl rfl rfl rfl (r_Row_put h0 :) (fun _ _ q => nomatch q.2) (fun r ph' q => ?_)
  obtain ⟨rfl, q⟩ := q
  cases q
  refine px_ld rfl rfl rfl rfl rfl ?_
  obtain ⟨t3, h0, h⟩ := xs_some h
  obtain ⟨fs, e1, e2⟩ := xgR_some h0
  refine px_get rfl e1 e2 rfl ?_
  refine px_ic (k := 4) rfl rfl rfl ?_
  refine px_ld rfl rfl rfl rfl rfl ?_
  refine px_alu rfl rfl rfl ?_
  obtain ⟨fs, h0, h⟩ := xs_some h
  have e1 := xo_some h0
  obtain ⟨u0, ph4, h0, h⟩ := xb_some h
  refine px_cV2 rfl rfl e1 rfl rfl rfl rfl rfl rfl rfl (r_Row_put h0 :) (fun _ _ q => nomatch q.2) (fun r ph' q => ?_)
  obtain ⟨rfl, q⟩ := q
  cases q
  refine px_ld rfl rfl rfl rfl rfl ?_
  obtain ⟨t5, h0, h⟩ := xs_some h
  obtain ⟨fs, e1, e2⟩ := xgR_some h0
  refine px_get rfl e1 e2 rfl ?_
  refine px_ic (k := 8) rfl rfl rfl ?_
  refine px_ld rfl rfl rfl rfl rfl ?_
  obtain ⟨t6, h0, h⟩ := xs_some h
  obtain ⟨fs, e1, e2⟩ := xgR_some h0
  refine px_get rfl e1 e2 rfl ?_
  obtain ⟨t7, h0, h⟩ := xs_some h
  obtain ⟨fs, e1, e2⟩ := xgR_some h0
  refine px_get rfl e1 e2 rfl ?_
  refine px_ld rfl rfl rfl rfl rfl ?_
  obtain ⟨t8, h0, h⟩ := xs_some h
  obtain ⟨N, f, e1, e2, e3⟩ := xaJ_some h0
  subst e3
  refine px_lald rfl e1 rfl e2 rfl ?_
  obtain ⟨fs, h0, h⟩ := xs_some h
  have e1 := xo_some h0
  obtain ⟨u0, ph9, h0, h⟩ := xb_some h
  refine px_cV2 rfl rfl e1 rfl rfl rfl rfl rfl rfl rfl (r_Row_put h0 :) (fun _ _ q => nomatch q.2) (fun r ph' q => ?_)
  obtain ⟨rfl, q⟩ := q
  cases q
  refine px_ld rfl rfl rfl rfl rfl ?_
  obtain ⟨t10, h0, h⟩ := xs_some h
  obtain ⟨fs, e1, e2⟩ := xgR_some h0
  refine px_get rfl e1 e2 rfl ?_
  refine px_ic (k := 8) rfl rfl rfl ?_
  refine px_ld rfl rfl rfl rfl rfl ?_
  obtain ⟨t11, h0, h⟩ := xs_some h
  obtain ⟨fs, e1, e2⟩ := xgR_some h0
  refine px_get rfl e1 e2 rfl ?_
  obtain ⟨t12, h0, h⟩ := xs_some h
  obtain ⟨fs, e1, e2⟩ := xgR_some h0
  refine px_get rfl e1 e2 rfl ?_
  refine px_ld rfl rfl rfl rfl rfl ?_
  obtain ⟨t13, h0, h⟩ := xs_some h
  obtain ⟨N, f, e1, e2, e3⟩ := xaJ_some h0
  subst e3
  refine px_lald rfl e1 rfl e2 rfl ?_
  obtain ⟨fs, h0, h⟩ := xs_some h
  have e1 := xo_some h0
  obtain ⟨u0, ph14, h0, h⟩ := xb_some h
  refine px_cV2 rfl rfl e1 rfl rfl rfl rfl rfl rfl rfl (r_Row_put h0 :) (fun _ _ q => nomatch q.2) (fun r ph' q => ?_)
  obtain ⟨rfl, q⟩ := q
  cases q
  refine px_ld rfl rfl rfl rfl rfl ?_
  obtain ⟨t15, h0, h⟩ := xs_some h
  obtain ⟨fs, e1, e2⟩ := xgR_some h0
  refine px_get rfl e1 e2 rfl ?_
  refine px_ic (k := 8) rfl rfl rfl ?_
  refine px_ld rfl rfl rfl rfl rfl ?_
  obtain ⟨t16, h0, h⟩ := xs_some h
  obtain ⟨fs, e1, e2⟩ := xgR_some h0
  refine px_get rfl e1 e2 rfl ?_
  obtain ⟨t17, h0, h⟩ := xs_some h
  obtain ⟨fs, e1, e2⟩ := xgR_some h0
  refine px_get rfl e1 e2 rfl ?_
  refine px_ld rfl rfl rfl rfl rfl ?_
  obtain ⟨t18, h0, h⟩ := xs_some h
  obtain ⟨N, f, e1, e2, e3⟩ := xaJ_some h0
  subst e3
  refine px_lald rfl e1 rfl e2 rfl ?_
  obtain ⟨fs, h0, h⟩ := xs_some h
  have e1 := xo_some h0
  obtain ⟨u0, ph19, h0, h⟩ := xb_some h
  refine px_cV2 rfl rfl e1 rfl rfl rfl rfl rfl rfl rfl (r_Row_put h0 :) (fun _ _ q => nomatch q.2) (fun r ph' q => ?_)
  obtain ⟨rfl, q⟩ := q
  cases q
  refine px_ld rfl rfl rfl rfl rfl ?_
  obtain ⟨t20, h0, h⟩ := xs_some h
  obtain ⟨fs, e1, e2⟩ := xgR_some h0
  refine px_get rfl e1 e2 rfl ?_
  refine px_ic (k := 8) rfl rfl rfl ?_
  refine px_ld rfl rfl rfl rfl rfl ?_
  obtain ⟨t21, h0, h⟩ := xs_some h
  obtain ⟨fs, e1, e2⟩ := xgR_some h0
  refine px_get rfl e1 e2 rfl ?_
  obtain ⟨t22, h0, h⟩ := xs_some h
  obtain ⟨fs, e1, e2⟩ := xgR_some h0
  refine px_get rfl e1 e2 rfl ?_
  refine px_ld rfl rfl rfl rfl rfl ?_
  obtain ⟨t23, h0, h⟩ := xs_some h
  obtain ⟨N, f, e1, e2, e3⟩ := xaJ_some h0
  subst e3
  refine px_lald rfl e1 rfl e2 rfl ?_
  obtain ⟨fs, h0, h⟩ := xs_some h
  have e1 := xo_some h0
  obtain ⟨u0, ph24, h0, h⟩ := xb_some h
  refine px_cV2 rfl rfl e1 rfl rfl rfl rfl rfl rfl rfl (r_Row_put h0 :) (fun _ _ q => nomatch q.2) (fun r ph' q => ?_)
  obtain ⟨rfl, q⟩ := q
  cases q
  refine px_ld rfl rfl rfl rfl rfl ?_
  obtain ⟨t25, h0, h⟩ := xs_some h
  obtain ⟨fs, e1, e2⟩ := xgR_some h0
  refine px_get rfl e1 e2 rfl ?_
  refine px_ic (k := 8) rfl rfl rfl ?_
  refine px_ld rfl rfl rfl rfl rfl ?_
  obtain ⟨t26, h0, h⟩ := xs_some h
  obtain ⟨fs, e1, e2⟩ := xgR_some h0
  refine px_get rfl e1 e2 rfl ?_
  obtain ⟨t27, h0, h⟩ := xs_some h
  obtain ⟨fs, e1, e2⟩ := xgR_some h0
  refine px_get rfl e1 e2 rfl ?_
  refine px_ld rfl rfl rfl rfl rfl ?_
  obtain ⟨t28, h0, h⟩ := xs_some h
  obtain ⟨N, f, e1, e2, e3⟩ := xaJ_some h0
  subst e3
  refine px_lald rfl e1 rfl e2 rfl ?_
  obtain ⟨fs, h0, h⟩ := xs_some h
  have e1 := xo_some h0
  obtain ⟨u0, ph29, h0, h⟩ := xb_some h
  refine px_cV2 rfl rfl e1 rfl rfl rfl rfl rfl rfl rfl (r_Row_put h0 :) (fun _ _ q => nomatch q.2) (fun r ph' q => ?_)
  obtain ⟨rfl, q⟩ := q
  cases q
  refine px_ld rfl rfl rfl rfl rfl ?_
  obtain ⟨t30, h0, h⟩ := xs_some h
  obtain ⟨fs, e1, e2⟩ := xgR_some h0
  refine px_get rfl e1 e2 rfl ?_
  refine px_ic (k := 8) rfl rfl rfl ?_
  refine px_ld rfl rfl rfl rfl rfl ?_
  obtain ⟨fs, h0, h⟩ := xs_some h
  have e1 := xo_some h0
  obtain ⟨u0, ph31, h0, h⟩ := xb_some h
  refine px_cV2 rfl rfl e1 rfl rfl rfl rfl rfl rfl rfl (r_Row_put h0 :) (fun _ _ q => nomatch q.2) (fun r ph' q => ?_)
  obtain ⟨rfl, q⟩ := q
  cases q
  cases h
  exact px_vret rfl rfl rfl ⟨rfl, rfl⟩
def f_Filler_spotOf (F : Nat) (c : px_CT) (a0 : Nat) (a1 : Option Nat) (ph : px_H) : Option (Int32 × px_H) :=
  (xgR ph 1 1 a0).bind fun t1 =>
  (xo ph 2 t1).bind fun _ =>
  xb (f_Layout_segmentOf F c t1 a1 ph) fun t2 ph3 =>
  (xgR ph3 1 1 a0).bind fun t4 =>
  (xgR ph3 2 5 t4).bind fun t5 =>
  (xaJ ph3 2 t5 t2).bind fun t6 =>
  (a1).bind fun p7 =>
  (xgJ ph3 8 11 p7).bind fun t8 =>
  (xgR ph3 1 1 a0).bind fun t9 =>
  (xgR ph3 2 6 t9).bind fun t10 =>
  (xaJ ph3 2 t10 t2).bind fun t11 =>
  some (((t6 + t8) - t11).toInt32, ph3)
theorem r_Filler_spotOf {l : Launch} {g : px_G} {d F : Nat} {a0 : Nat} {a1 : Option Nat} {ph : px_H} {r : Int32} {ph' : px_H} (h : f_Filler_spotOf F (px_ct g) a0 a1 ph = some (r, ph')) : PW l g (d + 1) m_Filler_spotOf 0 [.ref a0, va_rf a1, px_u] [] ph (px_qI r ph') := by
  unfold f_Filler_spotOf at h
  refine px_ld rfl rfl rfl rfl rfl ?_
  obtain ⟨t1, h0, h⟩ := xs_some h
  obtain ⟨fs, e1, e2⟩ := xgR_some h0
  refine px_get rfl e1 e2 rfl ?_
  refine px_ld rfl rfl rfl (by first | rfl | (cases a1 <;> rfl)) rfl ?_
  obtain ⟨fs, h0, h⟩ := xs_some h
  have e1 := xo_some h0
  obtain ⟨t2, ph3, h0, h⟩ := xb_some h
  refine px_cV1 (lv0 := [.ref t1, va_rf a1]) rfl rfl e1 rfl rfl rfl (by first | rfl | (cases a1 <;> rfl)) rfl (by first | rfl | (cases a1 <;> rfl)) rfl (r_Layout_segmentOf h0 :) (fun _ _ q => nomatch q.2) (fun r ph' q => ?_)
  obtain ⟨rfl, q⟩ := q
  cases q
  refine px_st (lv' := [.ref a0, va_rf a1, .int t2]) rfl rfl rfl rfl (by first | rfl | (cases a1 <;> rfl)) rfl rfl ?_
  refine px_ld rfl rfl rfl rfl rfl ?_
  obtain ⟨t4, h0, h⟩ := xs_some h
  obtain ⟨fs, e1, e2⟩ := xgR_some h0
  refine px_get rfl e1 e2 rfl ?_
  obtain ⟨t5, h0, h⟩ := xs_some h
  obtain ⟨fs, e1, e2⟩ := xgR_some h0
  refine px_get rfl e1 e2 rfl ?_
  refine px_ld rfl rfl rfl rfl rfl ?_
  obtain ⟨t6, h0, h⟩ := xs_some h
  obtain ⟨N, f, e1, e2, e3⟩ := xaJ_some h0
  subst e3
  refine px_lald rfl e1 rfl e2 rfl ?_
  refine px_ld rfl rfl rfl (by first | rfl | (cases a1 <;> rfl)) rfl ?_
  obtain ⟨p7, h0, h⟩ := xs_some h
  revert h
  subst h0
  intro h
  obtain ⟨t8, h0, h⟩ := xs_some h
  obtain ⟨fs, e1, e2⟩ := xgJ_some h0
  refine px_get rfl e1 e2 rfl ?_
  refine px_alu rfl rfl rfl ?_
  refine px_ld rfl rfl rfl rfl rfl ?_
  obtain ⟨t9, h0, h⟩ := xs_some h
  obtain ⟨fs, e1, e2⟩ := xgR_some h0
  refine px_get rfl e1 e2 rfl ?_
  obtain ⟨t10, h0, h⟩ := xs_some h
  obtain ⟨fs, e1, e2⟩ := xgR_some h0
  refine px_get rfl e1 e2 rfl ?_
  refine px_ld rfl rfl rfl rfl rfl ?_
  obtain ⟨t11, h0, h⟩ := xs_some h
  obtain ⟨N, f, e1, e2, e3⟩ := xaJ_some h0
  subst e3
  refine px_lald rfl e1 rfl e2 rfl ?_
  refine px_alu rfl rfl rfl ?_
  refine px_alu rfl rfl rfl ?_
  cases h
  exact px_iret rfl (Or.inl rfl) rfl ⟨rfl, rfl⟩
def f_Row_cover_33 (F : Nat) (c : px_CT) (ph : px_H) : Option (Unit × px_H) :=
  some ((), ph)
theorem r_Row_cover_33 {l : Launch} {g : px_G} {d F : Nat} {ph : px_H} {r : Unit} {ph' : px_H} (h : f_Row_cover_33 F (px_ct g) ph = some (r, ph')) : PW l g (d + 1) m_Row_cover 33 [px_u, px_u, px_u, px_u, px_u] [] ph (px_qV r ph') := by
  unfold f_Row_cover_33 at h
  cases h
  exact px_vret rfl rfl rfl ⟨rfl, rfl⟩
def f_Row_cover (F : Nat) (c : px_CT) (a0 : Nat) (a1 : Int32) (a2 : Nat) (a3 : Int32) (a4 : Int32) (ph : px_H) : Option (Unit × px_H) :=
  if a1 < 0 then
    f_Row_cover_33 F c ph
  else
    if a3 < 0 then
      f_Row_cover_33 F c ph
    else
      if a4 < 0 then
        f_Row_cover_33 F c ph
      else
        (xgI ph 10 1 a0).bind fun t1 =>
        if (t1 - a1) < a4 then
          f_Row_cover_33 F c ph
        else
          (xal ph 0 a2).bind fun t2 =>
          if a4 ≤ (t2 - a3) then
            (xgR ph 10 0 a0).bind fun t3 =>
            (xcpy ph a2 a3 t3 a1 a4).bind fun ph4 =>
            some ((), ph4)
          else
            f_Row_cover_33 F c ph
theorem r_Row_cover {l : Launch} {g : px_G} {d F : Nat} {a0 : Nat} {a1 : Int32} {a2 : Nat} {a3 : Int32} {a4 : Int32} {ph : px_H} {r : Unit} {ph' : px_H} (h : f_Row_cover F (px_ct g) a0 a1 a2 a3 a4 ph = some (r, ph')) : PW l g (d + 1) m_Row_cover 0 [.ref a0, .int a1, .ref a2, .int a3, .int a4] [] ph (px_qV r ph') := by
  unfold f_Row_cover at h
  refine px_ld rfl rfl rfl rfl rfl ?_
  refine px_iflt rfl rfl rfl (fun hc => ?_) (fun hc => ?_)
  · replace h := (if_pos hc).symm.trans h
    refine px_forget (n := 0) (lv' := [_, _, _, _, _]) rfl ?_
    refine px_forget (n := 1) (lv' := [_, _, _, _, _]) rfl ?_
    refine px_forget (n := 2) (lv' := [_, _, _, _, _]) rfl ?_
    refine px_forget (n := 3) (lv' := [_, _, _, _, _]) rfl ?_
    refine px_forget (n := 4) (lv' := [_, _, _, _, _]) rfl ?_
    exact (r_Row_cover_33 h :)
  · replace h := (if_neg hc).symm.trans h
    refine px_ld rfl rfl rfl rfl rfl ?_
    refine px_iflt rfl rfl rfl (fun hc => ?_) (fun hc => ?_)
    · replace h := (if_pos hc).symm.trans h
      refine px_forget (n := 0) (lv' := [_, _, _, _, _]) rfl ?_
      refine px_forget (n := 1) (lv' := [_, _, _, _, _]) rfl ?_
      refine px_forget (n := 2) (lv' := [_, _, _, _, _]) rfl ?_
      refine px_forget (n := 3) (lv' := [_, _, _, _, _]) rfl ?_
      refine px_forget (n := 4) (lv' := [_, _, _, _, _]) rfl ?_
      exact (r_Row_cover_33 h :)
    · replace h := (if_neg hc).symm.trans h
      refine px_ld rfl rfl rfl rfl rfl ?_
      refine px_iflt rfl rfl rfl (fun hc => ?_) (fun hc => ?_)
      · replace h := (if_pos hc).symm.trans h
        refine px_forget (n := 0) (lv' := [_, _, _, _, _]) rfl ?_
        refine px_forget (n := 1) (lv' := [_, _, _, _, _]) rfl ?_
        refine px_forget (n := 2) (lv' := [_, _, _, _, _]) rfl ?_
        refine px_forget (n := 3) (lv' := [_, _, _, _, _]) rfl ?_
        refine px_forget (n := 4) (lv' := [_, _, _, _, _]) rfl ?_
        exact (r_Row_cover_33 h :)
      · replace h := (if_neg hc).symm.trans h
        refine px_ld rfl rfl rfl rfl rfl ?_
        refine px_ld rfl rfl rfl rfl rfl ?_
        obtain ⟨t1, h0, h⟩ := xs_some h
        obtain ⟨fs, e1, e2⟩ := xgI_some h0
        refine px_get rfl e1 e2 rfl ?_
        refine px_ld rfl rfl rfl rfl rfl ?_
        refine px_alu rfl rfl rfl ?_
        refine px_icgt rfl rfl rfl (fun hc => ?_) (fun hc => ?_)
        · replace h := (if_pos hc).symm.trans h
          refine px_forget (n := 0) (lv' := [_, _, _, _, _]) rfl ?_
          refine px_forget (n := 1) (lv' := [_, _, _, _, _]) rfl ?_
          refine px_forget (n := 2) (lv' := [_, _, _, _, _]) rfl ?_
          refine px_forget (n := 3) (lv' := [_, _, _, _, _]) rfl ?_
          refine px_forget (n := 4) (lv' := [_, _, _, _, _]) rfl ?_
          exact (r_Row_cover_33 h :)
        · replace h := (if_neg hc).symm.trans h
          refine px_ld rfl rfl rfl rfl rfl ?_
          refine px_ld rfl rfl rfl rfl rfl ?_
          obtain ⟨t2, h0, h⟩ := xs_some h
          obtain ⟨x, e1, e3⟩ := xal_some h0
          subst e3
          refine px_alen rfl e1 rfl rfl ?_
          refine px_ld rfl rfl rfl rfl rfl ?_
          refine px_alu rfl rfl rfl ?_
          refine px_icle rfl rfl rfl (fun hc => ?_) (fun hc => ?_)
          · replace h := (if_pos hc).symm.trans h
            refine px_ld rfl rfl rfl rfl rfl ?_
            refine px_ld rfl rfl rfl rfl rfl ?_
            refine px_ld rfl rfl rfl rfl rfl ?_
            obtain ⟨t3, h0, h⟩ := xs_some h
            obtain ⟨fs, e1, e2⟩ := xgR_some h0
            refine px_get rfl e1 e2 rfl ?_
            refine px_ld rfl rfl rfl rfl rfl ?_
            refine px_ld rfl rfl rfl rfl rfl ?_
            obtain ⟨ph4, h0, h⟩ := xs_some h
            obtain ⟨n0, f0, n1, f1, e0, e1, b1, b2, b3, b4, b5, b6, e3⟩ := xcpy_some h0
            subst e3
            refine px_copy rfl rfl e0 e1 b1 b2 b3 b4 b5 b6 rfl ?_
            cases h
            exact px_vret rfl rfl rfl ⟨rfl, rfl⟩
          · replace h := (if_neg hc).symm.trans h
            refine px_forget (n := 0) (lv' := [_, _, _, _, _]) rfl ?_
            refine px_forget (n := 1) (lv' := [_, _, _, _, _]) rfl ?_
            refine px_forget (n := 2) (lv' := [_, _, _, _, _]) rfl ?_
            refine px_forget (n := 3) (lv' := [_, _, _, _, _]) rfl ?_
            refine px_forget (n := 4) (lv' := [_, _, _, _, _]) rfl ?_
            exact (r_Row_cover_33 h :)
def f_ObjectFile_valueOf (F : Nat) (c : px_CT) (a0 : Nat) (a1 : Int32) (ph : px_H) : Option (Int64 × px_H) :=
  (xgI ph 7 10 a0).bind fun t1 =>
  (xo ph 7 a0).bind fun _ =>
  xb (f_ObjectFile_num F c a0 ((t1 + ((nI 24) * a1)) + (nI 8)) (nI 8) ph) fun t2 ph3 =>
  some (t2, ph3)
theorem r_ObjectFile_valueOf {l : Launch} {g : px_G} {d F : Nat} {a0 : Nat} {a1 : Int32} {ph : px_H} {r : Int64} {ph' : px_H} (h : f_ObjectFile_valueOf F (px_ct g) a0 a1 ph = some (r, ph')) : PW l g (d + 1) m_ObjectFile_valueOf 0 [.ref a0, .int a1] [] ph (px_qJ r ph') := by
  unfold f_ObjectFile_valueOf at h
  refine px_ld rfl rfl rfl rfl rfl ?_
  refine px_ld rfl rfl rfl rfl rfl ?_
  obtain ⟨t1, h0, h⟩ := xs_some h
  obtain ⟨fs, e1, e2⟩ := xgI_some h0
  refine px_get rfl e1 e2 rfl ?_
  refine px_ic (k := 24) rfl rfl rfl ?_
  refine px_ld rfl rfl rfl rfl rfl ?_
  refine px_alu rfl rfl rfl ?_
  refine px_alu rfl rfl rfl ?_
  refine px_ic (k := 8) rfl rfl rfl ?_
  refine px_alu rfl rfl rfl ?_
  refine px_ic (k := 8) rfl rfl rfl ?_
  obtain ⟨fs, h0, h⟩ := xs_some h
  have e1 := xo_some h0
  obtain ⟨t2, ph3, h0, h⟩ := xb_some h
  refine px_cV2 rfl rfl e1 rfl rfl rfl rfl rfl rfl rfl (r_ObjectFile_num h0 :) (fun _ _ q => nomatch q.2) (fun r ph' q => ?_)
  obtain ⟨rfl, q⟩ := q
  cases q
  cases h
  exact px_lret rfl rfl rfl ⟨rfl, rfl⟩
def f_Layout_symbolAddress_124 (F : Nat) (c : px_CT) (s0 : Int64) (ph : px_H) : Option (Int64 × px_H) :=
  some (s0, ph)
theorem r_Layout_symbolAddress_124 {l : Launch} {g : px_G} {d F : Nat} {s0 : Int64} {ph : px_H} {r : Int64} {ph' : px_H} (h : f_Layout_symbolAddress_124 F (px_ct g) s0 ph = some (r, ph')) : PW l g (d + 2) m_Layout_symbolAddress 124 [px_u, px_u, px_u, px_u, px_u, px_u, px_u, px_u] [.long s0] ph (px_qJ r ph') := by
  unfold f_Layout_symbolAddress_124 at h
  cases h
  exact px_lret rfl rfl rfl ⟨rfl, rfl⟩
def f_Layout_symbolAddress_93 (F : Nat) (c : px_CT) (a0 : Nat) (a2 : Int32) (a4 : Option Nat) (a6 : Option Nat) (s0 : Int32) (ph : px_H) : Option (Int64 × px_H) :=
  if s0 = 0 then
    (xgR ph 2 1 a0).bind fun t1 =>
    (a4).bind fun p2 =>
    (xo ph 7 p2).bind fun _ =>
    xb (f_ObjectFile_valueOf F c p2 a2 ph) fun t3 ph4 =>
    (xo ph4 9 t1).bind fun _ =>
    xb (f_Pool_addressIn F c t1 a6 t3 ph4) fun t5 ph6 =>
    f_Layout_symbolAddress_124 F c t5 ph6
  else
    (a4).bind fun p7 =>
    (xo ph 7 p7).bind fun _ =>
    xb (f_ObjectFile_valueOf F c p7 a2 ph) fun t8 ph9 =>
    f_Layout_symbolAddress_124 F c t8 ph9
theorem r_Layout_symbolAddress_93 {l : Launch} {g : px_G} {d F : Nat} {a0 : Nat} {a2 : Int32} {a4 : Option Nat} {a6 : Option Nat} {s0 : Int32} {ph : px_H} {r : Int64} {ph' : px_H} (h : f_Layout_symbolAddress_93 F (px_ct g) a0 a2 a4 a6 s0 ph = some (r, ph')) : PW l g (d + 2) m_Layout_symbolAddress 93 [.ref a0, px_u, .int a2, px_u, va_rf a4, px_u, va_rf a6, px_u] [.int s0] ph (px_qJ r ph') := by
  unfold f_Layout_symbolAddress_93 at h
  refine px_st (lv' := [.ref a0, px_u, .int a2, px_u, va_rf a4, px_u, va_rf a6, .int s0]) rfl rfl rfl rfl (by first | rfl | (cases a6 <;> rfl)) rfl rfl ?_
  refine px_ld rfl rfl rfl rfl rfl ?_
  refine px_ifeq rfl (by decide) rfl (fun hc => ?_) (fun hc => ?_)
  · replace h := (if_pos hc).symm.trans h
    refine px_ld rfl rfl rfl rfl rfl ?_
    obtain ⟨t1, h0, h⟩ := xs_some h
    obtain ⟨fs, e1, e2⟩ := xgR_some h0
    refine px_get rfl e1 e2 rfl ?_
    refine px_ld rfl rfl rfl (by first | rfl | (cases a6 <;> rfl)) rfl ?_
    refine px_ld rfl rfl rfl (by first | rfl | (cases a4 <;> rfl)) rfl ?_
    refine px_ld rfl rfl rfl rfl rfl ?_
    obtain ⟨p2, h0, h⟩ := xs_some h
    revert h
    subst h0
    intro h
    obtain ⟨fs, h0, h⟩ := xs_some h
    have e1 := xo_some h0
    obtain ⟨t3, ph4, h0, h⟩ := xb_some h
    refine px_cV1 rfl rfl e1 rfl rfl rfl rfl (by first | rfl | (cases a6 <;> rfl)) rfl rfl (r_ObjectFile_valueOf h0 :) (fun _ _ q => nomatch q.2) (fun r ph' q => ?_)
    obtain ⟨rfl, q⟩ := q
    cases q
    obtain ⟨fs, h0, h⟩ := xs_some h
    have e1 := xo_some h0
    obtain ⟨t5, ph6, h0, h⟩ := xb_some h
    refine px_cV2 (lv0 := [.ref t1, va_rf a6, .long t3, px_u, px_u, px_u, px_u, px_u, px_u, px_u, px_u]) rfl rfl e1 rfl rfl rfl (by first | rfl | (cases a6 <;> rfl)) rfl (by first | rfl | (cases a6 <;> rfl)) rfl (r_Pool_addressIn h0 :) (fun _ _ q => nomatch q.2) (fun r ph' q => ?_)
    obtain ⟨rfl, q⟩ := q
    cases q
    refine px_forget (n := 0) (lv' := [_, _, _, _, _, _, _, _]) rfl ?_
    refine px_forget (n := 2) (lv' := [_, _, _, _, _, _, _, _]) rfl ?_
    refine px_forget (n := 4) (lv' := [_, _, _, _, _, _, _, _]) rfl ?_
    refine px_forget (n := 6) (lv' := [_, _, _, _, _, _, _, _]) rfl ?_
    refine px_forget (n := 7) (lv' := [_, _, _, _, _, _, _, _]) rfl ?_
    exact (r_Layout_symbolAddress_124 h :)
  · replace h := (if_neg hc).symm.trans h
    refine px_ld rfl rfl rfl (by first | rfl | (cases a4 <;> rfl)) rfl ?_
    refine px_ld rfl rfl rfl rfl rfl ?_
    obtain ⟨p7, h0, h⟩ := xs_some h
    revert h
    subst h0
    intro h
    obtain ⟨fs, h0, h⟩ := xs_some h
    have e1 := xo_some h0
    obtain ⟨t8, ph9, h0, h⟩ := xb_some h
    refine px_cV1 rfl rfl e1 rfl rfl rfl rfl rfl rfl rfl (r_ObjectFile_valueOf h0 :) (fun _ _ q => nomatch q.2) (fun r ph' q => ?_)
    obtain ⟨rfl, q⟩ := q
    cases q
    refine px_goto rfl (by decide) rfl ?_
    refine px_forget (n := 0) (lv' := [_, _, _, _, _, _, _, _]) rfl ?_
    refine px_forget (n := 2) (lv' := [_, _, _, _, _, _, _, _]) rfl ?_
    refine px_forget (n := 4) (lv' := [_, _, _, _, _, _, _, _]) rfl ?_
    refine px_forget (n := 6) (lv' := [_, _, _, _, _, _, _, _]) rfl ?_
    refine px_forget (n := 7) (lv' := [_, _, _, _, _, _, _, _]) rfl ?_
    exact (r_Layout_symbolAddress_124 h :)
def f_Layout_symbolAddress_88 (F : Nat) (c : px_CT) (a0 : Nat) (a2 : Int32) (a4 : Option Nat) (a6 : Option Nat) (ph : px_H) : Option (Int64 × px_H) :=
  f_Layout_symbolAddress_93 F c a0 a2 a4 a6 (nI 1) ph
theorem r_Layout_symbolAddress_88 {l : Launch} {g : px_G} {d F : Nat} {a0 : Nat} {a2 : Int32} {a4 : Option Nat} {a6 : Option Nat} {ph : px_H} {r : Int64} {ph' : px_H} (h : f_Layout_symbolAddress_88 F (px_ct g) a0 a2 a4 a6 ph = some (r, ph')) : PW l g (d + 2) m_Layout_symbolAddress 88 [.ref a0, px_u, .int a2, px_u, va_rf a4, px_u, va_rf a6, px_u] [] ph (px_qJ r ph') := by
  unfold f_Layout_symbolAddress_88 at h
  refine px_ic (k := 1) rfl rfl rfl ?_
  refine px_goto rfl (by decide) rfl ?_
  exact (r_Layout_symbolAddress_93 h :)
def f_Layout_symbolAddress_73 (F : Nat) (c : px_CT) (a0 : Nat) (a2 : Int32) (a4 : Option Nat) (s0 : Option Nat) (ph : px_H) : Option (Int64 × px_H) :=
  (match s0 with
    | none => f_Layout_symbolAddress_88 F c a0 a2 a4 none ph
    | some p1 => (xgI ph 8 8 p1).bind fun t2 =>
    if t2 = 0 then
      f_Layout_symbolAddress_88 F c a0 a2 a4 (some p1) ph
    else
      f_Layout_symbolAddress_93 F c a0 a2 a4 (some p1) (nI 0) ph)
theorem r_Layout_symbolAddress_73 {l : Launch} {g : px_G} {d F : Nat} {a0 : Nat} {a2 : Int32} {a4 : Option Nat} {s0 : Option Nat} {ph : px_H} {r : Int64} {ph' : px_H} (h : f_Layout_symbolAddress_73 F (px_ct g) a0 a2 a4 s0 ph = some (r, ph')) : PW l g (d + 2) m_Layout_symbolAddress 73 [.ref a0, px_u, .int a2, px_u, va_rf a4, px_u, px_u, px_u] [va_rf s0] ph (px_qJ r ph') := by
  unfold f_Layout_symbolAddress_73 at h
  refine px_st (lv' := [.ref a0, px_u, .int a2, px_u, va_rf a4, px_u, va_rf s0, px_u]) rfl rfl (by first | rfl | (cases s0 <;> rfl)) (by first | rfl | (cases s0 <;> rfl)) rfl (by first | rfl | (cases s0 <;> rfl)) rfl ?_
  refine px_ld rfl rfl rfl (by first | rfl | (cases s0 <;> rfl)) rfl ?_
  cases s0 with
  | none =>
    refine px_ifnullN rfl (by decide) rfl ?_
    exact (r_Layout_symbolAddress_88 h :)
  | some p1 =>
    refine px_ifnullR rfl rfl ?_
    refine px_ld rfl rfl rfl rfl rfl ?_
    obtain ⟨t2, h0, h⟩ := xs_some h
    obtain ⟨fs, e1, e2⟩ := xgI_some h0
    refine px_get rfl e1 e2 rfl ?_
    refine px_ifne rfl (by decide) rfl (fun hc => ?_) (fun hc => ?_)
    · replace h := (if_neg hc).symm.trans h
      refine px_ic (k := 0) rfl rfl rfl ?_
      exact (r_Layout_symbolAddress_93 h :)
    · replace h := (if_pos hc).symm.trans h
      exact (r_Layout_symbolAddress_88 h :)
def f_Layout_symbolAddress_43 (F : Nat) (c : px_CT) (a0 : Nat) (a1 : Int32) (a2 : Int32) (a4 : Option Nat) (s0 : Int32) (ph : px_H) : Option (Int64 × px_H) :=
  if s0 = 0 then
    some (lN 0, ph)
  else
    if (nI 24) ≤ s0 then
      f_Layout_symbolAddress_73 F c a0 a2 a4 none ph
    else
      (xgR ph 2 0 a0).bind fun t1 =>
      (xo ph 3 t1).bind fun _ =>
      xb (f_Link_part F c t1 a1 s0 ph) fun t2 ph3 =>
      f_Layout_symbolAddress_73 F c a0 a2 a4 t2 ph3
theorem r_Layout_symbolAddress_43 {l : Launch} {g : px_G} {d F : Nat} {a0 : Nat} {a1 : Int32} {a2 : Int32} {a4 : Option Nat} {s0 : Int32} {ph : px_H} {r : Int64} {ph' : px_H} (h : f_Layout_symbolAddress_43 F (px_ct g) a0 a1 a2 a4 s0 ph = some (r, ph')) : PW l g (d + 2) m_Layout_symbolAddress 43 [.ref a0, .int a1, .int a2, px_u, va_rf a4, px_u, px_u, px_u] [.int s0] ph (px_qJ r ph') := by
  unfold f_Layout_symbolAddress_43 at h
  refine px_st (lv' := [.ref a0, .int a1, .int a2, px_u, va_rf a4, .int s0, px_u, px_u]) rfl rfl rfl rfl (by first | rfl | (cases a4 <;> rfl)) rfl rfl ?_
  refine px_ld rfl rfl rfl rfl rfl ?_
  refine px_ifne rfl (by decide) rfl (fun hc => ?_) (fun hc => ?_)
  · replace h := (if_neg hc).symm.trans h
    refine px_ld rfl rfl rfl rfl rfl ?_
    refine px_ic (k := 24) rfl rfl rfl ?_
    refine px_icge rfl (by decide) rfl (fun hc => ?_) (fun hc => ?_)
    · replace h := (if_pos hc).symm.trans h
      refine px_alu rfl rfl rfl ?_
      refine px_forget (n := 1) (lv' := [_, _, _, _, _, _, _, _]) rfl ?_
      refine px_forget (n := 5) (lv' := [_, _, _, _, _, _, _, _]) rfl ?_
      exact (r_Layout_symbolAddress_73 h :)
    · replace h := (if_neg hc).symm.trans h
      refine px_ld rfl rfl rfl rfl rfl ?_
      obtain ⟨t1, h0, h⟩ := xs_some h
      obtain ⟨fs, e1, e2⟩ := xgR_some h0
      refine px_get rfl e1 e2 rfl ?_
      refine px_ld rfl rfl rfl rfl rfl ?_
      refine px_ld rfl rfl rfl rfl rfl ?_
      obtain ⟨fs, h0, h⟩ := xs_some h
      have e1 := xo_some h0
      obtain ⟨t2, ph3, h0, h⟩ := xb_some h
      refine px_cV2 rfl rfl e1 rfl rfl rfl rfl rfl rfl rfl (r_Link_part h0 :) (fun _ _ q => nomatch q.2) (fun r ph' q => ?_)
      obtain ⟨rfl, q⟩ := q
      cases q
      refine px_goto rfl (by decide) rfl ?_
      refine px_forget (n := 1) (lv' := [_, _, _, _, _, _, _, _]) rfl ?_
      refine px_forget (n := 5) (lv' := [_, _, _, _, _, _, _, _]) rfl ?_
      exact (r_Layout_symbolAddress_73 h :)
  · replace h := (if_pos hc).symm.trans h
    refine px_alu rfl rfl rfl ?_
    cases h
    exact px_lret rfl rfl rfl ⟨rfl, rfl⟩
def f_Layout_symbolAddress (F : Nat) (c : px_CT) (a0 : Nat) (a1 : Int32) (a2 : Int32) (ph : px_H) : Option (Int64 × px_H) :=
  (xgR ph 2 0 a0).bind fun t1 =>
  (xo ph 3 t1).bind fun _ =>
  xb (f_Link_nameOf F c t1 a1 a2 ph) fun t2 ph3 =>
  (match t2 with
    | none => (xgR ph3 2 0 a0).bind fun t5 =>
    (xo ph3 3 t5).bind fun _ =>
    xb (f_Link_object F c t5 a1 ph3) fun t6 ph7 =>
    if a2 = 0 then
      f_Layout_symbolAddress_43 F c a0 a1 a2 t6 (nI 0) ph7
    else
      (t6).bind fun p8 =>
      (xo ph7 7 p8).bind fun _ =>
      xb (f_ObjectFile_whereOf F c p8 a2 ph7) fun t9 ph10 =>
      f_Layout_symbolAddress_43 F c a0 a1 a2 (some p8) t9 ph10
    | some p4 => (xgJ ph3 5 14 p4).bind fun t11 =>
    some (t11, ph3))
theorem r_Layout_symbolAddress {l : Launch} {g : px_G} {d F : Nat} {a0 : Nat} {a1 : Int32} {a2 : Int32} {ph : px_H} {r : Int64} {ph' : px_H} (h : f_Layout_symbolAddress F (px_ct g) a0 a1 a2 ph = some (r, ph')) : PW l g (d + 2) m_Layout_symbolAddress 0 [.ref a0, .int a1, .int a2, px_u, px_u, px_u, px_u, px_u] [] ph (px_qJ r ph') := by
  unfold f_Layout_symbolAddress at h
  refine px_ld rfl rfl rfl rfl rfl ?_
  obtain ⟨t1, h0, h⟩ := xs_some h
  obtain ⟨fs, e1, e2⟩ := xgR_some h0
  refine px_get rfl e1 e2 rfl ?_
  refine px_ld rfl rfl rfl rfl rfl ?_
  refine px_ld rfl rfl rfl rfl rfl ?_
  obtain ⟨fs, h0, h⟩ := xs_some h
  have e1 := xo_some h0
  obtain ⟨t2, ph3, h0, h⟩ := xb_some h
  refine px_cV2 rfl rfl e1 rfl rfl rfl rfl rfl rfl rfl (r_Link_nameOf h0 :) (fun _ _ q => nomatch q.2) (fun r ph' q => ?_)
  obtain ⟨rfl, q⟩ := q
  cases q
  refine px_st (lv' := [.ref a0, .int a1, .int a2, va_rf t2, px_u, px_u, px_u, px_u]) rfl rfl (by first | rfl | (cases t2 <;> rfl)) (by first | rfl | (cases t2 <;> rfl)) rfl (by first | rfl | (cases t2 <;> rfl)) rfl ?_
  refine px_ld rfl rfl rfl (by first | rfl | (cases t2 <;> rfl)) rfl ?_
  cases t2 with
  | none =>
    refine px_ifnullN rfl (by decide) rfl ?_
    refine px_ld rfl rfl rfl rfl rfl ?_
    obtain ⟨t5, h0, h⟩ := xs_some h
    obtain ⟨fs, e1, e2⟩ := xgR_some h0
    refine px_get rfl e1 e2 rfl ?_
    refine px_ld rfl rfl rfl rfl rfl ?_
    obtain ⟨fs, h0, h⟩ := xs_some h
    have e1 := xo_some h0
    obtain ⟨t6, ph7, h0, h⟩ := xb_some h
    refine px_cV1 rfl rfl e1 rfl rfl rfl rfl rfl rfl rfl (r_Link_object h0 :) (fun _ _ q => nomatch q.2) (fun r ph' q => ?_)
    obtain ⟨rfl, q⟩ := q
    cases q
    refine px_st (lv' := [.ref a0, .int a1, .int a2, va_rf none, va_rf t6, px_u, px_u, px_u]) rfl rfl (by first | rfl | (cases t6 <;> rfl)) (by first | rfl | (cases t6 <;> rfl)) (by first | rfl | (cases none <;> rfl)) (by first | rfl | (cases t6 <;> rfl)) rfl ?_
    refine px_ld rfl rfl rfl rfl rfl ?_
    refine px_ifne rfl (by decide) rfl (fun hc => ?_) (fun hc => ?_)
    · replace h := (if_neg hc).symm.trans h
      refine px_ld rfl rfl rfl (by first | rfl | (cases t6 <;> rfl)) rfl ?_
      refine px_ld rfl rfl rfl rfl rfl ?_
      obtain ⟨p8, h0, h⟩ := xs_some h
      revert h
      subst h0
      intro h
      obtain ⟨fs, h0, h⟩ := xs_some h
      have e1 := xo_some h0
      obtain ⟨t9, ph10, h0, h⟩ := xb_some h
      refine px_cV1 rfl rfl e1 rfl rfl rfl rfl rfl rfl rfl (r_ObjectFile_whereOf h0 :) (fun _ _ q => nomatch q.2) (fun r ph' q => ?_)
      obtain ⟨rfl, q⟩ := q
      cases q
      refine px_forget (n := 3) (lv' := [_, _, _, _, _, _, _, _]) rfl ?_
      exact (r_Layout_symbolAddress_43 h :)
    · replace h := (if_pos hc).symm.trans h
      refine px_ic (k := 0) rfl rfl rfl ?_
      refine px_goto rfl (by decide) rfl ?_
      refine px_forget (n := 3) (lv' := [_, _, _, _, _, _, _, _]) rfl ?_
      exact (r_Layout_symbolAddress_43 h :)
  | some p4 =>
    refine px_ifnullR rfl rfl ?_
    refine px_ld rfl rfl rfl rfl rfl ?_
    obtain ⟨t11, h0, h⟩ := xs_some h
    obtain ⟨fs, e1, e2⟩ := xgJ_some h0
    refine px_get rfl e1 e2 rfl ?_
    cases h
    exact px_lret rfl rfl rfl ⟨rfl, rfl⟩
def f_Layout_slotValue_59 (F : Nat) (c : px_CT) (s0 : Int64) (ph : px_H) : Option (Int64 × px_H) :=
  some (s0, ph)
theorem r_Layout_slotValue_59 {l : Launch} {g : px_G} {d F : Nat} {s0 : Int64} {ph : px_H} {r : Int64} {ph' : px_H} (h : f_Layout_slotValue_59 F (px_ct g) s0 ph = some (r, ph')) : PW l g (d + 3) m_Layout_slotValue 59 [px_u, px_u, px_u, px_u, px_u, px_u] [.long s0] ph (px_qJ r ph') := by
  unfold f_Layout_slotValue_59 at h
  cases h
  exact px_lret rfl rfl rfl ⟨rfl, rfl⟩
def f_Layout_slotValue_22 (F : Nat) (c : px_CT) (a0 : Nat) (s0 : Int32) (ph : px_H) : Option (Int64 × px_H) :=
  (xo ph 2 a0).bind fun _ =>
  xb (f_Layout_symbolAddress F c a0 ((s0 / (nI 2)) / (nI 64)) ((s0 / (nI 2)) - (s0 / (nI 2)) / (nI 64) * (nI 64)) ph) fun t1 ph2 =>
  if (s0 &&& (nI 1)) = 0 then
    f_Layout_slotValue_59 F c t1 ph2
  else
    (xgJ ph2 2 17 a0).bind fun t3 =>
    f_Layout_slotValue_59 F c (t1 - t3) ph2
theorem r_Layout_slotValue_22 {l : Launch} {g : px_G} {d F : Nat} {a0 : Nat} {s0 : Int32} {ph : px_H} {r : Int64} {ph' : px_H} (h : f_Layout_slotValue_22 F (px_ct g) a0 s0 ph = some (r, ph')) : PW l g (d + 3) m_Layout_slotValue 22 [.ref a0, px_u, px_u, px_u, px_u, px_u] [.int s0] ph (px_qJ r ph') := by
  unfold f_Layout_slotValue_22 at h
  refine px_st (lv' := [_, _, _, _, _, _]) rfl rfl rfl rfl rfl rfl rfl ?_
  refine px_ld rfl rfl rfl rfl rfl ?_
  refine px_ic (k := 2) rfl rfl rfl ?_
  refine px_idiv rfl (by decide) rfl ?_
  refine px_st (lv' := [_, _, _, _, _, _]) rfl rfl rfl rfl rfl rfl rfl ?_
  refine px_ld rfl rfl rfl rfl rfl ?_
  refine px_ld rfl rfl rfl rfl rfl ?_
  refine px_ic (k := 64) rfl rfl rfl ?_
  refine px_idiv rfl (by decide) rfl ?_
  refine px_ld rfl rfl rfl rfl rfl ?_
  refine px_ic (k := 64) rfl rfl rfl ?_
  refine px_irem rfl (by decide) rfl ?_
  obtain ⟨fs, h0, h⟩ := xs_some h
  have e1 := xo_some h0
  obtain ⟨t1, ph2, h0, h⟩ := xb_some h
  refine px_cV2 rfl rfl e1 rfl rfl rfl rfl rfl rfl rfl (r_Layout_symbolAddress h0 :) (fun _ _ q => nomatch q.2) (fun r ph' q => ?_)
  obtain ⟨rfl, q⟩ := q
  cases q
  refine px_st (lv' := [_, _, _, _, _, _]) rfl rfl rfl rfl rfl rfl rfl ?_
  refine px_ld rfl rfl rfl rfl rfl ?_
  refine px_ic (k := 1) rfl rfl rfl ?_
  refine px_alu rfl rfl rfl ?_
  refine px_ifne rfl rfl rfl (fun hc => ?_) (fun hc => ?_)
  · replace h := (if_neg hc).symm.trans h
    refine px_ld rfl rfl rfl rfl rfl ?_
    refine px_ld rfl rfl rfl rfl rfl ?_
    obtain ⟨t3, h0, h⟩ := xs_some h
    obtain ⟨fs, e1, e2⟩ := xgJ_some h0
    refine px_get rfl e1 e2 rfl ?_
    refine px_alu rfl rfl rfl ?_
    refine px_forget (n := 0) (lv' := [_, _, _, _, _, _]) rfl ?_
    refine px_forget (n := 2) (lv' := [_, _, _, _, _, _]) rfl ?_
    refine px_forget (n := 3) (lv' := [_, _, _, _, _, _]) rfl ?_
    refine px_forget (n := 4) (lv' := [_, _, _, _, _, _]) rfl ?_
    exact (r_Layout_slotValue_59 h :)
  · replace h := (if_pos hc).symm.trans h
    refine px_ld rfl rfl rfl rfl rfl ?_
    refine px_goto rfl rfl rfl ?_
    refine px_forget (n := 0) (lv' := [_, _, _, _, _, _]) rfl ?_
    refine px_forget (n := 2) (lv' := [_, _, _, _, _, _]) rfl ?_
    refine px_forget (n := 3) (lv' := [_, _, _, _, _, _]) rfl ?_
    refine px_forget (n := 4) (lv' := [_, _, _, _, _, _]) rfl ?_
    exact (r_Layout_slotValue_59 h :)
def f_Layout_slotValue_21 (F : Nat) (c : px_CT) (a0 : Nat) (ph : px_H) : Option (Int64 × px_H) :=
  f_Layout_slotValue_22 F c a0 (nI 0) ph
theorem r_Layout_slotValue_21 {l : Launch} {g : px_G} {d F : Nat} {a0 : Nat} {ph : px_H} {r : Int64} {ph' : px_H} (h : f_Layout_slotValue_21 F (px_ct g) a0 ph = some (r, ph')) : PW l g (d + 3) m_Layout_slotValue 21 [.ref a0, px_u, px_u, px_u, px_u, px_u] [] ph (px_qJ r ph') := by
  unfold f_Layout_slotValue_21 at h
  refine px_ic (k := 0) rfl rfl rfl ?_
  exact (r_Layout_slotValue_22 h :)
def f_Layout_slotValue (F : Nat) (c : px_CT) (a0 : Nat) (a1 : Int32) (ph : px_H) : Option (Int64 × px_H) :=
  if a1 < 0 then
    f_Layout_slotValue_21 F c a0 ph
  else
    (xgI ph 2 12 a0).bind fun t1 =>
    if t1 ≤ a1 then
      f_Layout_slotValue_21 F c a0 ph
    else
      (xgR ph 2 9 a0).bind fun t2 =>
      (xaI ph 1 t2 a1).bind fun t3 =>
      f_Layout_slotValue_22 F c a0 t3 ph
theorem r_Layout_slotValue {l : Launch} {g : px_G} {d F : Nat} {a0 : Nat} {a1 : Int32} {ph : px_H} {r : Int64} {ph' : px_H} (h : f_Layout_slotValue F (px_ct g) a0 a1 ph = some (r, ph')) : PW l g (d + 3) m_Layout_slotValue 0 [.ref a0, .int a1, px_u, px_u, px_u, px_u] [] ph (px_qJ r ph') := by
  unfold f_Layout_slotValue at h
  refine px_ld rfl rfl rfl rfl rfl ?_
  refine px_iflt rfl rfl rfl (fun hc => ?_) (fun hc => ?_)
  · replace h := (if_pos hc).symm.trans h
    refine px_forget (n := 1) (lv' := [_, _, _, _, _, _]) rfl ?_
    exact (r_Layout_slotValue_21 h :)
  · replace h := (if_neg hc).symm.trans h
    refine px_ld rfl rfl rfl rfl rfl ?_
    refine px_ld rfl rfl rfl rfl rfl ?_
    obtain ⟨t1, h0, h⟩ := xs_some h
    obtain ⟨fs, e1, e2⟩ := xgI_some h0
    refine px_get rfl e1 e2 rfl ?_
    refine px_icge rfl rfl rfl (fun hc => ?_) (fun hc => ?_)
    · replace h := (if_pos hc).symm.trans h
      refine px_forget (n := 1) (lv' := [_, _, _, _, _, _]) rfl ?_
      exact (r_Layout_slotValue_21 h :)
    · replace h := (if_neg hc).symm.trans h
      refine px_ld rfl rfl rfl rfl rfl ?_
      obtain ⟨t2, h0, h⟩ := xs_some h
      obtain ⟨fs, e1, e2⟩ := xgR_some h0
      refine px_get rfl e1 e2 rfl ?_
      refine px_ld rfl rfl rfl rfl rfl ?_
      obtain ⟨t3, h0, h⟩ := xs_some h
      obtain ⟨N, f, e1, e2, e3⟩ := xaI_some h0
      subst e3
      refine px_iald rfl e1 rfl e2 rfl ?_
      refine px_goto rfl rfl rfl ?_
      refine px_forget (n := 1) (lv' := [_, _, _, _, _, _]) rfl ?_
      exact (r_Layout_slotValue_22 h :)
def f_Row_set_51 (F : Nat) (c : px_CT) (ph : px_H) : Option (Unit × px_H) :=
  some ((), ph)
theorem r_Row_set_51 {l : Launch} {g : px_G} {d F : Nat} {ph : px_H} {r : Unit} {ph' : px_H} (h : f_Row_set_51 F (px_ct g) ph = some (r, ph')) : PW l g (d + 0) m_Row_set 51 [px_u, px_u, px_u, px_u, px_u, px_u, px_u] [] ph (px_qV r ph') := by
  unfold f_Row_set_51 at h
  cases h
  exact px_vret rfl rfl rfl ⟨rfl, rfl⟩
def f_Row_set_45 (F : Nat) (c : px_CT) (k3 : Nat → Int32 → Int32 → Int64 → Int32 → px_H → Option (Unit × px_H)) (a0 : Nat) (a1 : Int32) (a2 : Int32) (a3 : Int64) (a5 : Int32) (ph : px_H) : Option (Unit × px_H) :=
  k3 a0 a1 a2 a3 (a5 + nI 1) ph
theorem r_Row_set_45 {l : Launch} {g : px_G} {d F : Nat} {k3 : Nat → Int32 → Int32 → Int64 → Int32 → px_H → Option (Unit × px_H)} (hk3 : ∀ {a0 : Nat} {a1 : Int32} {a2 : Int32} {a3 : Int64} {a5 : Int32} {ph : px_H} {r : Unit} {ph' : px_H}, k3 a0 a1 a2 a3 a5 ph = some (r, ph') → PW l g (d + 0) m_Row_set 3 [.ref a0, .int a1, .int a2, .long a3, px_u, .int a5, px_u] [] ph (px_qV r ph')) {a0 : Nat} {a1 : Int32} {a2 : Int32} {a3 : Int64} {a5 : Int32} {ph : px_H} {r : Unit} {ph' : px_H} (h : f_Row_set_45 F (px_ct g) k3 a0 a1 a2 a3 a5 ph = some (r, ph')) : PW l g (d + 0) m_Row_set 45 [.ref a0, .int a1, .int a2, .long a3, px_u, .int a5, px_u] [] ph (px_qV r ph') := by
  unfold f_Row_set_45 at h
  refine px_iinc (lv' := [_, _, _, _, _, _, _]) rfl rfl rfl rfl rfl rfl ?_
  refine px_goto rfl rfl rfl ?_
  exact (hk3 h :)
def f_Row_set_3 (F : Nat) (c : px_CT) : Nat → Nat → Int32 → Int32 → Int64 → Int32 → px_H → Option (Unit × px_H)
  | 0, _, _, _, _, _, _ => none
  | n + 1, a0, a1, a2, a3, a5, ph =>
    if a2 ≤ a5 then
      f_Row_set_51 F c ph
    else
      if (a1 + a5) < 0 then
        f_Row_set_45 F c (f_Row_set_3 F c n) a0 a1 a2 a3 a5 ph
      else
        (xgI ph 10 1 a0).bind fun t1 =>
        if t1 ≤ (a1 + a5) then
          f_Row_set_45 F c (f_Row_set_3 F c n) a0 a1 a2 a3 a5 ph
        else
          (xgR ph 10 0 a0).bind fun t2 =>
          (xsI ph 0 t2 (a1 + a5) (((((a3.toUInt64 >>> (((nI 8) * a5).toInt64.toUInt64 &&& Int64.toUInt64 63)).toInt64).toInt32).toInt8.toInt32).toInt8.toInt32)).bind fun ph3 =>
          f_Row_set_45 F c (f_Row_set_3 F c n) a0 a1 a2 a3 a5 ph3
theorem r_Row_set_3 {l : Launch} {g : px_G} {d F : Nat} : ∀ (n : Nat) {a0 : Nat} {a1 : Int32} {a2 : Int32} {a3 : Int64} {a5 : Int32} {ph : px_H} {r : Unit} {ph' : px_H}, f_Row_set_3 F (px_ct g) n a0 a1 a2 a3 a5 ph = some (r, ph') → PW l g (d + 0) m_Row_set 3 [.ref a0, .int a1, .int a2, .long a3, px_u, .int a5, px_u] [] ph (px_qV r ph') := by
  intro n
  induction n with
  | zero => intro _ _ _ _ _ _ _ _ h; cases h
  | succ n ih =>
    intro a0 a1 a2 a3 a5 ph r ph' h
    unfold f_Row_set_3 at h
    refine px_ld rfl rfl rfl rfl rfl ?_
    refine px_ld rfl rfl rfl rfl rfl ?_
    refine px_icge rfl rfl rfl (fun hc => ?_) (fun hc => ?_)
    · replace h := (if_pos hc).symm.trans h
      refine px_forget (n := 0) (lv' := [_, _, _, _, _, _, _]) rfl ?_
      refine px_forget (n := 1) (lv' := [_, _, _, _, _, _, _]) rfl ?_
      refine px_forget (n := 2) (lv' := [_, _, _, _, _, _, _]) rfl ?_
      refine px_forget (n := 3) (lv' := [_, _, _, _, _, _, _]) rfl ?_
      refine px_forget (n := 5) (lv' := [_, _, _, _, _, _, _]) rfl ?_
      exact (r_Row_set_51 h :)
    · replace h := (if_neg hc).symm.trans h
      refine px_ld rfl rfl rfl rfl rfl ?_
      refine px_ld rfl rfl rfl rfl rfl ?_
      refine px_alu rfl rfl rfl ?_
      refine px_st (lv' := [_, _, _, _, _, _, _]) rfl rfl rfl rfl rfl rfl rfl ?_
      refine px_ld rfl rfl rfl rfl rfl ?_
      refine px_iflt rfl rfl rfl (fun hc => ?_) (fun hc => ?_)
      · replace h := (if_pos hc).symm.trans h
        refine px_forget (n := 6) (lv' := [_, _, _, _, _, _, _]) rfl ?_
        exact (r_Row_set_45 @ih h :)
      · replace h := (if_neg hc).symm.trans h
        refine px_ld rfl rfl rfl rfl rfl ?_
        refine px_ld rfl rfl rfl rfl rfl ?_
        obtain ⟨t1, h0, h⟩ := xs_some h
        obtain ⟨fs, e1, e2⟩ := xgI_some h0
        refine px_get rfl e1 e2 rfl ?_
        refine px_icge rfl rfl rfl (fun hc => ?_) (fun hc => ?_)
        · replace h := (if_pos hc).symm.trans h
          refine px_forget (n := 6) (lv' := [_, _, _, _, _, _, _]) rfl ?_
          exact (r_Row_set_45 @ih h :)
        · replace h := (if_neg hc).symm.trans h
          refine px_ld rfl rfl rfl rfl rfl ?_
          obtain ⟨t2, h0, h⟩ := xs_some h
          obtain ⟨fs, e1, e2⟩ := xgR_some h0
          refine px_get rfl e1 e2 rfl ?_
          refine px_ld rfl rfl rfl rfl rfl ?_
          refine px_ld rfl rfl rfl rfl rfl ?_
          refine px_ic (k := 8) rfl rfl rfl ?_
          refine px_ld rfl rfl rfl rfl rfl ?_
          refine px_alu rfl rfl rfl ?_
          refine px_alu rfl rfl rfl ?_
          refine px_alu rfl rfl rfl ?_
          refine px_alu rfl rfl rfl ?_
          obtain ⟨ph3, h0, h⟩ := xs_some h
          obtain ⟨N, f, e1, e2, e3⟩ := xsI_some h0
          subst e3
          refine px_bast rfl e1 rfl e2 rfl ?_
          refine px_forget (n := 6) (lv' := [_, _, _, _, _, _, _]) rfl ?_
          exact (r_Row_set_45 @ih h :)
def f_Row_set (F : Nat) (c : px_CT) (a0 : Nat) (a1 : Int32) (a2 : Int32) (a3 : Int64) (ph : px_H) : Option (Unit × px_H) :=
  f_Row_set_3 F c F a0 a1 a2 a3 (nI 0) ph
theorem r_Row_set {l : Launch} {g : px_G} {d F : Nat} {a0 : Nat} {a1 : Int32} {a2 : Int32} {a3 : Int64} {ph : px_H} {r : Unit} {ph' : px_H} (h : f_Row_set F (px_ct g) a0 a1 a2 a3 ph = some (r, ph')) : PW l g (d + 0) m_Row_set 0 [.ref a0, .int a1, .int a2, .long a3, px_u, px_u, px_u] [] ph (px_qV r ph') := by
  unfold f_Row_set at h
  refine px_ic (k := 0) rfl rfl rfl ?_
  refine px_st (lv' := [_, _, _, _, _, _, _]) rfl rfl rfl rfl rfl rfl rfl ?_
  exact (r_Row_set_3 _ h :)
def f_Filler_write_327 (F : Nat) (c : px_CT) (ph : px_H) : Option (Unit × px_H) :=
  some ((), ph)
theorem r_Filler_write_327 {l : Launch} {g : px_G} {d F : Nat} {ph : px_H} {r : Unit} {ph' : px_H} (h : f_Filler_write_327 F (px_ct g) ph = some (r, ph')) : PW l g (d + 5) m_Filler_write 327 [px_u, px_u, px_u] [] ph (px_qV r ph') := by
  unfold f_Filler_write_327 at h
  cases h
  exact px_vret rfl rfl rfl ⟨rfl, rfl⟩
def f_Filler_write_287 (F : Nat) (c : px_CT) : Nat → Nat → Int32 → Int32 → px_H → Option (Unit × px_H)
  | 0, _, _, _, _ => none
  | n + 1, a0, a1, a2, ph =>
    (xgR ph 1 1 a0).bind fun t1 =>
    (xgI ph 2 12 t1).bind fun t2 =>
    if t2 ≤ a2 then
      f_Filler_write_327 F c ph
    else
      (xgR ph 1 4 a0).bind fun t3 =>
      (xgR ph 1 1 a0).bind fun t4 =>
      (xo ph 2 t4).bind fun _ =>
      xb (f_Layout_slotValue F c t4 a2 ph) fun t5 ph6 =>
      (xo ph6 10 t3).bind fun _ =>
      xb (f_Row_set F c t3 (a1 + ((nI 8) * a2)) (nI 8) t5 ph6) fun _ ph7 =>
      f_Filler_write_287 F c n a0 a1 (a2 + nI 1) ph7
theorem r_Filler_write_287 {l : Launch} {g : px_G} {d F : Nat} : ∀ (n : Nat) {a0 : Nat} {a1 : Int32} {a2 : Int32} {ph : px_H} {r : Unit} {ph' : px_H}, f_Filler_write_287 F (px_ct g) n a0 a1 a2 ph = some (r, ph') → PW l g (d + 5) m_Filler_write 287 [.ref a0, .int a1, .int a2] [] ph (px_qV r ph') := by
  intro n
  induction n with
  | zero => intro _ _ _ _ _ _ h; cases h
  | succ n ih =>
    intro a0 a1 a2 ph r ph' h
    unfold f_Filler_write_287 at h
    refine px_ld rfl rfl rfl rfl rfl ?_
    refine px_ld rfl rfl rfl rfl rfl ?_
    obtain ⟨t1, h0, h⟩ := xs_some h
    obtain ⟨fs, e1, e2⟩ := xgR_some h0
    refine px_get rfl e1 e2 rfl ?_
    obtain ⟨t2, h0, h⟩ := xs_some h
    obtain ⟨fs, e1, e2⟩ := xgI_some h0
    refine px_get rfl e1 e2 rfl ?_
    refine px_icge rfl (by decide) rfl (fun hc => ?_) (fun hc => ?_)
    · replace h := (if_pos hc).symm.trans h
      refine px_forget (n := 0) (lv' := [_, _, _]) rfl ?_
      refine px_forget (n := 1) (lv' := [_, _, _]) rfl ?_
      refine px_forget (n := 2) (lv' := [_, _, _]) rfl ?_
      exact (r_Filler_write_327 h :)
    · replace h := (if_neg hc).symm.trans h
      refine px_ld rfl rfl rfl rfl rfl ?_
      obtain ⟨t3, h0, h⟩ := xs_some h
      obtain ⟨fs, e1, e2⟩ := xgR_some h0
      refine px_get rfl e1 e2 rfl ?_
      refine px_ld rfl rfl rfl rfl rfl ?_
      refine px_ic (k := 8) rfl rfl rfl ?_
      refine px_ld rfl rfl rfl rfl rfl ?_
      refine px_alu rfl rfl rfl ?_
      refine px_alu rfl rfl rfl ?_
      refine px_ic (k := 8) rfl rfl rfl ?_
      refine px_ld rfl rfl rfl rfl rfl ?_
      obtain ⟨t4, h0, h⟩ := xs_some h
      obtain ⟨fs, e1, e2⟩ := xgR_some h0
      refine px_get rfl e1 e2 rfl ?_
      refine px_ld rfl rfl rfl rfl rfl ?_
      obtain ⟨fs, h0, h⟩ := xs_some h
      have e1 := xo_some h0
      obtain ⟨t5, ph6, h0, h⟩ := xb_some h
      refine px_cV1 rfl rfl e1 rfl rfl rfl rfl rfl rfl rfl (r_Layout_slotValue h0 :) (fun _ _ q => nomatch q.2) (fun r ph' q => ?_)
      obtain ⟨rfl, q⟩ := q
      cases q
      obtain ⟨fs, h0, h⟩ := xs_some h
      have e1 := xo_some h0
      obtain ⟨u0, ph7, h0, h⟩ := xb_some h
      refine px_cV3 rfl rfl e1 rfl rfl rfl rfl rfl rfl rfl (r_Row_set h0 :) (fun _ _ q => nomatch q.2) (fun r ph' q => ?_)
      obtain ⟨rfl, q⟩ := q
      cases q
      refine px_iinc (lv' := [_, _, _]) rfl rfl rfl rfl rfl rfl ?_
      refine px_goto rfl (by decide) rfl ?_
      exact (ih h :)
def f_Filler_write_256 (F : Nat) (c : px_CT) (a0 : Nat) (ph : px_H) : Option (Unit × px_H) :=
  (xgR ph 1 1 a0).bind fun t1 =>
  (xgR ph 2 5 t1).bind fun t2 =>
  (xaJ ph 2 t2 (nI 2)).bind fun t3 =>
  (xgR ph 1 1 a0).bind fun t4 =>
  (xgJ ph 2 13 t4).bind fun t5 =>
  (xgR ph 1 1 a0).bind fun t6 =>
  (xgR ph 2 6 t6).bind fun t7 =>
  (xaJ ph 2 t7 (nI 2)).bind fun t8 =>
  f_Filler_write_287 F c F a0 (((t3 + t5) - t8).toInt32) (nI 0) ph
theorem r_Filler_write_256 {l : Launch} {g : px_G} {d F : Nat} {a0 : Nat} {ph : px_H} {r : Unit} {ph' : px_H} (h : f_Filler_write_256 F (px_ct g) a0 ph = some (r, ph')) : PW l g (d + 5) m_Filler_write 256 [.ref a0, px_u, px_u] [] ph (px_qV r ph') := by
  unfold f_Filler_write_256 at h
  refine px_ld rfl rfl rfl rfl rfl ?_
  obtain ⟨t1, h0, h⟩ := xs_some h
  obtain ⟨fs, e1, e2⟩ := xgR_some h0
  refine px_get rfl e1 e2 rfl ?_
  obtain ⟨t2, h0, h⟩ := xs_some h
  obtain ⟨fs, e1, e2⟩ := xgR_some h0
  refine px_get rfl e1 e2 rfl ?_
  refine px_ic (k := 2) rfl rfl rfl ?_
  obtain ⟨t3, h0, h⟩ := xs_some h
  obtain ⟨N, f, e1, e2, e3⟩ := xaJ_some h0
  subst e3
  refine px_lald rfl e1 rfl e2 rfl ?_
  refine px_ld rfl rfl rfl rfl rfl ?_
  obtain ⟨t4, h0, h⟩ := xs_some h
  obtain ⟨fs, e1, e2⟩ := xgR_some h0
  refine px_get rfl e1 e2 rfl ?_
  obtain ⟨t5, h0, h⟩ := xs_some h
  obtain ⟨fs, e1, e2⟩ := xgJ_some h0
  refine px_get rfl e1 e2 rfl ?_
  refine px_alu rfl rfl rfl ?_
  refine px_ld rfl rfl rfl rfl rfl ?_
  obtain ⟨t6, h0, h⟩ := xs_some h
  obtain ⟨fs, e1, e2⟩ := xgR_some h0
  refine px_get rfl e1 e2 rfl ?_
  obtain ⟨t7, h0, h⟩ := xs_some h
  obtain ⟨fs, e1, e2⟩ := xgR_some h0
  refine px_get rfl e1 e2 rfl ?_
  refine px_ic (k := 2) rfl rfl rfl ?_
  obtain ⟨t8, h0, h⟩ := xs_some h
  obtain ⟨N, f, e1, e2, e3⟩ := xaJ_some h0
  subst e3
  refine px_lald rfl e1 rfl e2 rfl ?_
  refine px_alu rfl rfl rfl ?_
  refine px_alu rfl rfl rfl ?_
  refine px_st (lv' := [_, _, _]) rfl rfl rfl rfl rfl rfl rfl ?_
  refine px_ic (k := 0) rfl rfl rfl ?_
  refine px_st (lv' := [_, _, _]) rfl rfl rfl rfl rfl rfl rfl ?_
  exact (r_Filler_write_287 _ h :)
def f_Filler_write_194 (F : Nat) (c : px_CT) : Nat → Nat → Int32 → Int32 → px_H → Option (Unit × px_H)
  | 0, _, _, _, _ => none
  | n + 1, a0, a1, a2, ph =>
    (xgR ph 1 2 a0).bind fun t1 =>
    (xgI ph 9 3 t1).bind fun t2 =>
    if t2 ≤ a2 then
      f_Filler_write_256 F c a0 ph
    else
      (xgR ph 1 4 a0).bind fun t3 =>
      (xgR ph 1 3 a0).bind fun t4 =>
      (xgR ph 10 0 t4).bind fun t5 =>
      (xgR ph 1 2 a0).bind fun t6 =>
      (xgR ph 9 1 t6).bind fun t7 =>
      (xaI ph 1 t7 a2).bind fun t8 =>
      (xgR ph 1 2 a0).bind fun t9 =>
      (xgR ph 9 2 t9).bind fun t10 =>
      (xaI ph 1 t10 a2).bind fun t11 =>
      (xo ph 10 t3).bind fun _ =>
      xb (f_Row_cover F c t3 a1 t5 t8 t11 ph) fun _ ph12 =>
      (xgR ph12 1 2 a0).bind fun t13 =>
      (xgR ph12 9 2 t13).bind fun t14 =>
      (xaI ph12 1 t14 a2).bind fun t15 =>
      f_Filler_write_194 F c n a0 (a1 + t15) (a2 + nI 1) ph12
theorem r_Filler_write_194 {l : Launch} {g : px_G} {d F : Nat} : ∀ (n : Nat) {a0 : Nat} {a1 : Int32} {a2 : Int32} {ph : px_H} {r : Unit} {ph' : px_H}, f_Filler_write_194 F (px_ct g) n a0 a1 a2 ph = some (r, ph') → PW l g (d + 5) m_Filler_write 194 [.ref a0, .int a1, .int a2] [] ph (px_qV r ph') := by
  intro n
  induction n with
  | zero => intro _ _ _ _ _ _ h; cases h
  | succ n ih =>
    intro a0 a1 a2 ph r ph' h
    unfold f_Filler_write_194 at h
    refine px_ld rfl rfl rfl rfl rfl ?_
    refine px_ld rfl rfl rfl rfl rfl ?_
    obtain ⟨t1, h0, h⟩ := xs_some h
    obtain ⟨fs, e1, e2⟩ := xgR_some h0
    refine px_get rfl e1 e2 rfl ?_
    obtain ⟨t2, h0, h⟩ := xs_some h
    obtain ⟨fs, e1, e2⟩ := xgI_some h0
    refine px_get rfl e1 e2 rfl ?_
    refine px_icge rfl (by decide) rfl (fun hc => ?_) (fun hc => ?_)
    · replace h := (if_pos hc).symm.trans h
      refine px_forget (n := 1) (lv' := [_, _, _]) rfl ?_
      refine px_forget (n := 2) (lv' := [_, _, _]) rfl ?_
      exact (r_Filler_write_256 h :)
    · replace h := (if_neg hc).symm.trans h
      refine px_ld rfl rfl rfl rfl rfl ?_
      obtain ⟨t3, h0, h⟩ := xs_some h
      obtain ⟨fs, e1, e2⟩ := xgR_some h0
      refine px_get rfl e1 e2 rfl ?_
      refine px_ld rfl rfl rfl rfl rfl ?_
      refine px_ld rfl rfl rfl rfl rfl ?_
      obtain ⟨t4, h0, h⟩ := xs_some h
      obtain ⟨fs, e1, e2⟩ := xgR_some h0
      refine px_get rfl e1 e2 rfl ?_
      obtain ⟨t5, h0, h⟩ := xs_some h
      obtain ⟨fs, e1, e2⟩ := xgR_some h0
      refine px_get rfl e1 e2 rfl ?_
      refine px_ld rfl rfl rfl rfl rfl ?_
      obtain ⟨t6, h0, h⟩ := xs_some h
      obtain ⟨fs, e1, e2⟩ := xgR_some h0
      refine px_get rfl e1 e2 rfl ?_
      obtain ⟨t7, h0, h⟩ := xs_some h
      obtain ⟨fs, e1, e2⟩ := xgR_some h0
      refine px_get rfl e1 e2 rfl ?_
      refine px_ld rfl rfl rfl rfl rfl ?_
      obtain ⟨t8, h0, h⟩ := xs_some h
      obtain ⟨N, f, e1, e2, e3⟩ := xaI_some h0
      subst e3
      refine px_iald rfl e1 rfl e2 rfl ?_
      refine px_ld rfl rfl rfl rfl rfl ?_
      obtain ⟨t9, h0, h⟩ := xs_some h
      obtain ⟨fs, e1, e2⟩ := xgR_some h0
      refine px_get rfl e1 e2 rfl ?_
      obtain ⟨t10, h0, h⟩ := xs_some h
      obtain ⟨fs, e1, e2⟩ := xgR_some h0
      refine px_get rfl e1 e2 rfl ?_
      refine px_ld rfl rfl rfl rfl rfl ?_
      obtain ⟨t11, h0, h⟩ := xs_some h
      obtain ⟨N, f, e1, e2, e3⟩ := xaI_some h0
      subst e3
      refine px_iald rfl e1 rfl e2 rfl ?_
      obtain ⟨fs, h0, h⟩ := xs_some h
      have e1 := xo_some h0
      obtain ⟨u0, ph12, h0, h⟩ := xb_some h
      refine px_cV4 rfl rfl e1 rfl rfl rfl rfl rfl rfl rfl (r_Row_cover h0 :) (fun _ _ q => nomatch q.2) (fun r ph' q => ?_)
      obtain ⟨rfl, q⟩ := q
      cases q
      refine px_ld rfl rfl rfl rfl rfl ?_
      refine px_ld rfl rfl rfl rfl rfl ?_
      obtain ⟨t13, h0, h⟩ := xs_some h
      obtain ⟨fs, e1, e2⟩ := xgR_some h0
      refine px_get rfl e1 e2 rfl ?_
      obtain ⟨t14, h0, h⟩ := xs_some h
      obtain ⟨fs, e1, e2⟩ := xgR_some h0
      refine px_get rfl e1 e2 rfl ?_
      refine px_ld rfl rfl rfl rfl rfl ?_
      obtain ⟨t15, h0, h⟩ := xs_some h
      obtain ⟨N, f, e1, e2, e3⟩ := xaI_some h0
      subst e3
      refine px_iald rfl e1 rfl e2 rfl ?_
      refine px_alu rfl rfl rfl ?_
      refine px_st (lv' := [_, _, _]) rfl rfl rfl rfl rfl rfl rfl ?_
      refine px_iinc (lv' := [_, _, _]) rfl rfl rfl rfl rfl rfl ?_
      refine px_goto rfl (by decide) rfl ?_
      exact (ih h :)
def f_Filler_write_163 (F : Nat) (c : px_CT) (a0 : Nat) (ph : px_H) : Option (Unit × px_H) :=
  (xgR ph 1 1 a0).bind fun t1 =>
  (xgR ph 2 5 t1).bind fun t2 =>
  (xaJ ph 2 t2 (nI 1)).bind fun t3 =>
  (xgR ph 1 2 a0).bind fun t4 =>
  (xgJ ph 9 5 t4).bind fun t5 =>
  (xgR ph 1 1 a0).bind fun t6 =>
  (xgR ph 2 6 t6).bind fun t7 =>
  (xaJ ph 2 t7 (nI 1)).bind fun t8 =>
  f_Filler_write_194 F c F a0 (((t3 + t5) - t8).toInt32) (nI 0) ph
theorem r_Filler_write_163 {l : Launch} {g : px_G} {d F : Nat} {a0 : Nat} {ph : px_H} {r : Unit} {ph' : px_H} (h : f_Filler_write_163 F (px_ct g) a0 ph = some (r, ph')) : PW l g (d + 5) m_Filler_write 163 [.ref a0, px_u, px_u] [] ph (px_qV r ph') := by
  unfold f_Filler_write_163 at h
  refine px_ld rfl rfl rfl rfl rfl ?_
  obtain ⟨t1, h0, h⟩ := xs_some h
  obtain ⟨fs, e1, e2⟩ := xgR_some h0
  refine px_get rfl e1 e2 rfl ?_
  obtain ⟨t2, h0, h⟩ := xs_some h
  obtain ⟨fs, e1, e2⟩ := xgR_some h0
  refine px_get rfl e1 e2 rfl ?_
  refine px_ic (k := 1) rfl rfl rfl ?_
  obtain ⟨t3, h0, h⟩ := xs_some h
  obtain ⟨N, f, e1, e2, e3⟩ := xaJ_some h0
  subst e3
  refine px_lald rfl e1 rfl e2 rfl ?_
  refine px_ld rfl rfl rfl rfl rfl ?_
  obtain ⟨t4, h0, h⟩ := xs_some h
  obtain ⟨fs, e1, e2⟩ := xgR_some h0
  refine px_get rfl e1 e2 rfl ?_
  obtain ⟨t5, h0, h⟩ := xs_some h
  obtain ⟨fs, e1, e2⟩ := xgJ_some h0
  refine px_get rfl e1 e2 rfl ?_
  refine px_alu rfl rfl rfl ?_
  refine px_ld rfl rfl rfl rfl rfl ?_
  obtain ⟨t6, h0, h⟩ := xs_some h
  obtain ⟨fs, e1, e2⟩ := xgR_some h0
  refine px_get rfl e1 e2 rfl ?_
  obtain ⟨t7, h0, h⟩ := xs_some h
  obtain ⟨fs, e1, e2⟩ := xgR_some h0
  refine px_get rfl e1 e2 rfl ?_
  refine px_ic (k := 1) rfl rfl rfl ?_
  obtain ⟨t8, h0, h⟩ := xs_some h
  obtain ⟨N, f, e1, e2, e3⟩ := xaJ_some h0
  subst e3
  refine px_lald rfl e1 rfl e2 rfl ?_
  refine px_alu rfl rfl rfl ?_
  refine px_alu rfl rfl rfl ?_
  refine px_st (lv' := [_, _, _]) rfl rfl rfl rfl rfl rfl rfl ?_
  refine px_ic (k := 0) rfl rfl rfl ?_
  refine px_st (lv' := [_, _, _]) rfl rfl rfl rfl rfl rfl rfl ?_
  exact (r_Filler_write_194 _ h :)
def f_Filler_write_157 (F : Nat) (c : px_CT) (k87 : Nat → Int32 → px_H → Option (Unit × px_H)) (a0 : Nat) (a1 : Int32) (ph : px_H) : Option (Unit × px_H) :=
  k87 a0 (a1 + nI 1) ph
theorem r_Filler_write_157 {l : Launch} {g : px_G} {d F : Nat} {k87 : Nat → Int32 → px_H → Option (Unit × px_H)} (hk87 : ∀ {a0 : Nat} {a1 : Int32} {ph : px_H} {r : Unit} {ph' : px_H}, k87 a0 a1 ph = some (r, ph') → PW l g (d + 5) m_Filler_write 87 [.ref a0, .int a1, px_u] [] ph (px_qV r ph')) {a0 : Nat} {a1 : Int32} {ph : px_H} {r : Unit} {ph' : px_H} (h : f_Filler_write_157 F (px_ct g) k87 a0 a1 ph = some (r, ph')) : PW l g (d + 5) m_Filler_write 157 [.ref a0, .int a1, px_u] [] ph (px_qV r ph') := by
  unfold f_Filler_write_157 at h
  refine px_iinc (lv' := [_, _, _]) rfl rfl rfl rfl rfl rfl ?_
  refine px_goto rfl (by decide) rfl ?_
  exact (hk87 h :)
def f_Filler_write_87 (F : Nat) (c : px_CT) : Nat → Nat → Int32 → px_H → Option (Unit × px_H)
  | 0, _, _, _ => none
  | n + 1, a0, a1, ph =>
    (xgR ph 1 1 a0).bind fun t1 =>
    (xgI ph 2 11 t1).bind fun t2 =>
    if t2 ≤ a1 then
      f_Filler_write_163 F c a0 ph
    else
      (xgR ph 1 1 a0).bind fun t3 =>
      (xo ph 2 t3).bind fun _ =>
      xb (f_Layout_partAt F c t3 a1 ph) fun t4 ph5 =>
      (t4).bind fun p6 =>
      (xgI ph5 8 4 p6).bind fun t7 =>
      if t7 = (nI 3) then
        f_Filler_write_157 F c (f_Filler_write_87 F c n) a0 a1 ph5
      else
        (xgI ph5 8 4 p6).bind fun t8 =>
        if t8 = (nI 5) then
          f_Filler_write_157 F c (f_Filler_write_87 F c n) a0 a1 ph5
        else
          (xgI ph5 8 10 p6).bind fun t9 =>
          if t9 = 0 then
            (xgR ph5 1 4 a0).bind fun t10 =>
            (xo ph5 1 a0).bind fun _ =>
            xb (f_Filler_spotOf F c a0 (some p6) ph5) fun t11 ph12 =>
            (xgR ph12 1 3 a0).bind fun t13 =>
            (xgR ph12 10 0 t13).bind fun t14 =>
            (xgI ph12 8 7 p6).bind fun t15 =>
            (xgI ph12 8 5 p6).bind fun t16 =>
            (xo ph12 10 t10).bind fun _ =>
            xb (f_Row_cover F c t10 t11 t14 t15 t16 ph12) fun _ ph17 =>
            f_Filler_write_157 F c (f_Filler_write_87 F c n) a0 a1 ph17
          else
            f_Filler_write_157 F c (f_Filler_write_87 F c n) a0 a1 ph5
theorem r_Filler_write_87 {l : Launch} {g : px_G} {d F : Nat} : ∀ (n : Nat) {a0 : Nat} {a1 : Int32} {ph : px_H} {r : Unit} {ph' : px_H}, f_Filler_write_87 F (px_ct g) n a0 a1 ph = some (r, ph') → PW l g (d + 5) m_Filler_write 87 [.ref a0, .int a1, px_u] [] ph (px_qV r ph') := by
  intro n
  induction n with
  | zero => intro _ _ _ _ _ h; cases h
  | succ n ih =>
    intro a0 a1 ph r ph' h
    unfold f_Filler_write_87 at h
    refine px_ld rfl rfl rfl rfl rfl ?_
    refine px_ld rfl rfl rfl rfl rfl ?_
    obtain ⟨t1, h0, h⟩ := xs_some h
    obtain ⟨fs, e1, e2⟩ := xgR_some h0
    refine px_get rfl e1 e2 rfl ?_
    obtain ⟨t2, h0, h⟩ := xs_some h
    obtain ⟨fs, e1, e2⟩ := xgI_some h0
    refine px_get rfl e1 e2 rfl ?_
    refine px_icge rfl (by decide) rfl (fun hc => ?_) (fun hc => ?_)
    · replace h := (if_pos hc).symm.trans h
      refine px_forget (n := 1) (lv' := [_, _, _]) rfl ?_
      exact (r_Filler_write_163 h :)
    · replace h := (if_neg hc).symm.trans h
      refine px_ld rfl rfl rfl rfl rfl ?_
      obtain ⟨t3, h0, h⟩ := xs_some h
      obtain ⟨fs, e1, e2⟩ := xgR_some h0
      refine px_get rfl e1 e2 rfl ?_
      refine px_ld rfl rfl rfl rfl rfl ?_
      obtain ⟨fs, h0, h⟩ := xs_some h
      have e1 := xo_some h0
      obtain ⟨t4, ph5, h0, h⟩ := xb_some h
      refine px_cV1 rfl rfl e1 rfl rfl rfl rfl rfl rfl rfl (r_Layout_partAt h0 :) (fun _ _ q => nomatch q.2) (fun r ph' q => ?_)
      obtain ⟨rfl, q⟩ := q
      cases q
      refine px_st (lv' := [.ref a0, .int a1, va_rf t4]) rfl rfl (by first | rfl | (cases t4 <;> rfl)) (by first | rfl | (cases t4 <;> rfl)) rfl (by first | rfl | (cases t4 <;> rfl)) rfl ?_
      refine px_ld rfl rfl rfl (by first | rfl | (cases t4 <;> rfl)) rfl ?_
      obtain ⟨p6, h0, h⟩ := xs_some h
      revert h
      subst h0
      intro h
      obtain ⟨t7, h0, h⟩ := xs_some h
      obtain ⟨fs, e1, e2⟩ := xgI_some h0
      refine px_get rfl e1 e2 rfl ?_
      refine px_ic (k := 3) rfl rfl rfl ?_
      refine px_iceq rfl (by decide) rfl (fun hc => ?_) (fun hc => ?_)
      · replace h := (if_pos hc).symm.trans h
        refine px_forget (n := 2) (lv' := [_, _, _]) rfl ?_
        exact (r_Filler_write_157 @ih h :)
      · replace h := (if_neg hc).symm.trans h
        refine px_ld rfl rfl rfl rfl rfl ?_
        obtain ⟨t8, h0, h⟩ := xs_some h
        obtain ⟨fs, e1, e2⟩ := xgI_some h0
        refine px_get rfl e1 e2 rfl ?_
        refine px_ic (k := 5) rfl rfl rfl ?_
        refine px_iceq rfl (by decide) rfl (fun hc => ?_) (fun hc => ?_)
        · replace h := (if_pos hc).symm.trans h
          refine px_forget (n := 2) (lv' := [_, _, _]) rfl ?_
          exact (r_Filler_write_157 @ih h :)
        · replace h := (if_neg hc).symm.trans h
          refine px_ld rfl rfl rfl rfl rfl ?_
          obtain ⟨t9, h0, h⟩ := xs_some h
          obtain ⟨fs, e1, e2⟩ := xgI_some h0
          refine px_get rfl e1 e2 rfl ?_
          refine px_ifne rfl (by decide) rfl (fun hc => ?_) (fun hc => ?_)
          · replace h := (if_neg hc).symm.trans h
            refine px_forget (n := 2) (lv' := [_, _, _]) rfl ?_
            exact (r_Filler_write_157 @ih h :)
          · replace h := (if_pos hc).symm.trans h
            refine px_ld rfl rfl rfl rfl rfl ?_
            obtain ⟨t10, h0, h⟩ := xs_some h
            obtain ⟨fs, e1, e2⟩ := xgR_some h0
            refine px_get rfl e1 e2 rfl ?_
            refine px_ld rfl rfl rfl rfl rfl ?_
            refine px_ld rfl rfl rfl rfl rfl ?_
            obtain ⟨fs, h0, h⟩ := xs_some h
            have e1 := xo_some h0
            obtain ⟨t11, ph12, h0, h⟩ := xb_some h
            refine px_cV1 rfl rfl e1 rfl rfl rfl rfl rfl rfl rfl (r_Filler_spotOf h0 :) (fun _ _ q => nomatch q.2) (fun r ph' q => ?_)
            obtain ⟨rfl, q⟩ := q
            cases q
            refine px_ld rfl rfl rfl rfl rfl ?_
            obtain ⟨t13, h0, h⟩ := xs_some h
            obtain ⟨fs, e1, e2⟩ := xgR_some h0
            refine px_get rfl e1 e2 rfl ?_
            obtain ⟨t14, h0, h⟩ := xs_some h
            obtain ⟨fs, e1, e2⟩ := xgR_some h0
            refine px_get rfl e1 e2 rfl ?_
            refine px_ld rfl rfl rfl rfl rfl ?_
            obtain ⟨t15, h0, h⟩ := xs_some h
            obtain ⟨fs, e1, e2⟩ := xgI_some h0
            refine px_get rfl e1 e2 rfl ?_
            refine px_ld rfl rfl rfl rfl rfl ?_
            obtain ⟨t16, h0, h⟩ := xs_some h
            obtain ⟨fs, e1, e2⟩ := xgI_some h0
            refine px_get rfl e1 e2 rfl ?_
            obtain ⟨fs, h0, h⟩ := xs_some h
            have e1 := xo_some h0
            obtain ⟨u0, ph17, h0, h⟩ := xb_some h
            refine px_cV4 rfl rfl e1 rfl rfl rfl rfl rfl rfl rfl (r_Row_cover h0 :) (fun _ _ q => nomatch q.2) (fun r ph' q => ?_)
            obtain ⟨rfl, q⟩ := q
            cases q
            refine px_forget (n := 2) (lv' := [_, _, _]) rfl ?_
            exact (r_Filler_write_157 @ih h :)
def f_Filler_write_70 (F : Nat) (c : px_CT) (a0 : Nat) (ph : px_H) : Option (Unit × px_H) :=
  (xgR ph 1 4 a0).bind fun t1 =>
  (xgR ph 1 1 a0).bind fun t2 =>
  (xgJ ph 2 18 t2).bind fun t3 =>
  (xo ph 10 t1).bind fun _ =>
  xb (f_Row_fillTo F c t1 t3 (nI 0) ph) fun _ ph4 =>
  f_Filler_write_87 F c F a0 (nI 0) ph4
theorem r_Filler_write_70 {l : Launch} {g : px_G} {d F : Nat} {a0 : Nat} {ph : px_H} {r : Unit} {ph' : px_H} (h : f_Filler_write_70 F (px_ct g) a0 ph = some (r, ph')) : PW l g (d + 5) m_Filler_write 70 [.ref a0, px_u, px_u] [] ph (px_qV r ph') := by
  unfold f_Filler_write_70 at h
  refine px_ld rfl rfl rfl rfl rfl ?_
  obtain ⟨t1, h0, h⟩ := xs_some h
  obtain ⟨fs, e1, e2⟩ := xgR_some h0
  refine px_get rfl e1 e2 rfl ?_
  refine px_ld rfl rfl rfl rfl rfl ?_
  obtain ⟨t2, h0, h⟩ := xs_some h
  obtain ⟨fs, e1, e2⟩ := xgR_some h0
  refine px_get rfl e1 e2 rfl ?_
  obtain ⟨t3, h0, h⟩ := xs_some h
  obtain ⟨fs, e1, e2⟩ := xgJ_some h0
  refine px_get rfl e1 e2 rfl ?_
  refine px_ic (k := 0) rfl rfl rfl ?_
  obtain ⟨fs, h0, h⟩ := xs_some h
  have e1 := xo_some h0
  obtain ⟨u0, ph4, h0, h⟩ := xb_some h
  refine px_cV2 rfl rfl e1 rfl rfl rfl rfl rfl rfl rfl (r_Row_fillTo h0 :) (fun _ _ q => nomatch q.2) (fun r ph' q => ?_)
  obtain ⟨rfl, q⟩ := q
  cases q
  refine px_ic (k := 0) rfl rfl rfl ?_
  refine px_st (lv' := [_, _, _]) rfl rfl rfl rfl rfl rfl rfl ?_
  exact (r_Filler_write_87 _ h :)
def f_Filler_write_43 (F : Nat) (c : px_CT) (a0 : Nat) (ph : px_H) : Option (Unit × px_H) :=
  (xgR ph 1 1 a0).bind fun t1 =>
  (xgR ph 2 4 t1).bind fun t2 =>
  (xaI ph 3 t2 (nI 3)).bind fun t3 =>
  if t3 = 0 then
    f_Filler_write_70 F c a0 ph
  else
    (xgR ph 1 1 a0).bind fun t4 =>
    (xgJ ph 2 16 t4).bind fun t5 =>
    (xo ph 1 a0).bind fun _ =>
    xb (f_Filler_writeRow F c a0 (nI 7) (nI 4) (nI 3) t5 ph) fun _ ph6 =>
    f_Filler_write_70 F c a0 ph6
theorem r_Filler_write_43 {l : Launch} {g : px_G} {d F : Nat} {a0 : Nat} {ph : px_H} {r : Unit} {ph' : px_H} (h : f_Filler_write_43 F (px_ct g) a0 ph = some (r, ph')) : PW l g (d + 5) m_Filler_write 43 [.ref a0, px_u, px_u] [] ph (px_qV r ph') := by
  unfold f_Filler_write_43 at h
  refine px_ld rfl rfl rfl rfl rfl ?_
  obtain ⟨t1, h0, h⟩ := xs_some h
  obtain ⟨fs, e1, e2⟩ := xgR_some h0
  refine px_get rfl e1 e2 rfl ?_
  obtain ⟨t2, h0, h⟩ := xs_some h
  obtain ⟨fs, e1, e2⟩ := xgR_some h0
  refine px_get rfl e1 e2 rfl ?_
  refine px_ic (k := 3) rfl rfl rfl ?_
  obtain ⟨t3, h0, h⟩ := xs_some h
  obtain ⟨N, f, e1, e2, e3⟩ := xaI_some h0
  subst e3
  refine px_zald rfl e1 rfl e2 rfl ?_
  refine px_ifeq rfl (by decide) rfl (fun hc => ?_) (fun hc => ?_)
  · replace h := (if_pos hc).symm.trans h
    exact (r_Filler_write_70 h :)
  · replace h := (if_neg hc).symm.trans h
    refine px_ld rfl rfl rfl rfl rfl ?_
    refine px_ic (k := 7) rfl rfl rfl ?_
    refine px_ic (k := 4) rfl rfl rfl ?_
    refine px_ic (k := 3) rfl rfl rfl ?_
    refine px_ld rfl rfl rfl rfl rfl ?_
    obtain ⟨t4, h0, h⟩ := xs_some h
    obtain ⟨fs, e1, e2⟩ := xgR_some h0
    refine px_get rfl e1 e2 rfl ?_
    obtain ⟨t5, h0, h⟩ := xs_some h
    obtain ⟨fs, e1, e2⟩ := xgJ_some h0
    refine px_get rfl e1 e2 rfl ?_
    obtain ⟨fs, h0, h⟩ := xs_some h
    have e1 := xo_some h0
    obtain ⟨u0, ph6, h0, h⟩ := xb_some h
    refine px_cV4 rfl rfl e1 rfl rfl rfl rfl rfl rfl rfl (r_Filler_writeRow h0 :) (fun _ _ q => nomatch q.2) (fun r ph' q => ?_)
    obtain ⟨rfl, q⟩ := q
    cases q
    exact (r_Filler_write_70 h :)
def f_Filler_write_37 (F : Nat) (c : px_CT) (k6 : Nat → Int32 → px_H → Option (Unit × px_H)) (a0 : Nat) (a1 : Int32) (ph : px_H) : Option (Unit × px_H) :=
  k6 a0 (a1 + nI 1) ph
theorem r_Filler_write_37 {l : Launch} {g : px_G} {d F : Nat} {k6 : Nat → Int32 → px_H → Option (Unit × px_H)} (hk6 : ∀ {a0 : Nat} {a1 : Int32} {ph : px_H} {r : Unit} {ph' : px_H}, k6 a0 a1 ph = some (r, ph') → PW l g (d + 5) m_Filler_write 6 [.ref a0, .int a1, px_u] [] ph (px_qV r ph')) {a0 : Nat} {a1 : Int32} {ph : px_H} {r : Unit} {ph' : px_H} (h : f_Filler_write_37 F (px_ct g) k6 a0 a1 ph = some (r, ph')) : PW l g (d + 5) m_Filler_write 37 [.ref a0, .int a1, px_u] [] ph (px_qV r ph') := by
  unfold f_Filler_write_37 at h
  refine px_iinc (lv' := [_, _, _]) rfl rfl rfl rfl rfl rfl ?_
  refine px_goto rfl (by decide) rfl ?_
  exact (hk6 h :)
def f_Filler_write_6 (F : Nat) (c : px_CT) : Nat → Nat → Int32 → px_H → Option (Unit × px_H)
  | 0, _, _, _ => none
  | n + 1, a0, a1, ph =>
    if (nI 3) ≤ a1 then
      f_Filler_write_43 F c a0 ph
    else
      (xgR ph 1 1 a0).bind fun t1 =>
      (xgR ph 2 4 t1).bind fun t2 =>
      (xaI ph 3 t2 a1).bind fun t3 =>
      if t3 = 0 then
        f_Filler_write_37 F c (f_Filler_write_6 F c n) a0 a1 ph
      else
        (xkI c 2 a1).bind fun t4 =>
        (xo ph 1 a0).bind fun _ =>
        xb (f_Filler_writeRow F c a0 (nI 1) t4 a1 ((4096 : Int64)) ph) fun _ ph5 =>
        f_Filler_write_37 F c (f_Filler_write_6 F c n) a0 a1 ph5
theorem r_Filler_write_6 {l : Launch} {g : px_G} {d F : Nat} : ∀ (n : Nat) {a0 : Nat} {a1 : Int32} {ph : px_H} {r : Unit} {ph' : px_H}, f_Filler_write_6 F (px_ct g) n a0 a1 ph = some (r, ph') → PW l g (d + 5) m_Filler_write 6 [.ref a0, .int a1, px_u] [] ph (px_qV r ph') := by
  intro n
  induction n with
  | zero => intro _ _ _ _ _ h; cases h
  | succ n ih =>
    intro a0 a1 ph r ph' h
    unfold f_Filler_write_6 at h
    refine px_ld rfl rfl rfl rfl rfl ?_
    refine px_ic (k := 3) rfl rfl rfl ?_
    refine px_icge rfl (by decide) rfl (fun hc => ?_) (fun hc => ?_)
    · replace h := (if_pos hc).symm.trans h
      refine px_forget (n := 1) (lv' := [_, _, _]) rfl ?_
      exact (r_Filler_write_43 h :)
    · replace h := (if_neg hc).symm.trans h
      refine px_ld rfl rfl rfl rfl rfl ?_
      obtain ⟨t1, h0, h⟩ := xs_some h
      obtain ⟨fs, e1, e2⟩ := xgR_some h0
      refine px_get rfl e1 e2 rfl ?_
      obtain ⟨t2, h0, h⟩ := xs_some h
      obtain ⟨fs, e1, e2⟩ := xgR_some h0
      refine px_get rfl e1 e2 rfl ?_
      refine px_ld rfl rfl rfl rfl rfl ?_
      obtain ⟨t3, h0, h⟩ := xs_some h
      obtain ⟨N, f, e1, e2, e3⟩ := xaI_some h0
      subst e3
      refine px_zald rfl e1 rfl e2 rfl ?_
      refine px_ifeq rfl (by decide) rfl (fun hc => ?_) (fun hc => ?_)
      · replace h := (if_pos hc).symm.trans h
        exact (r_Filler_write_37 @ih h :)
      · replace h := (if_neg hc).symm.trans h
        refine px_ld rfl rfl rfl rfl rfl ?_
        refine px_ic (k := 1) rfl rfl rfl ?_
        refine px_gets rfl rfl ?_
        refine px_ld rfl rfl rfl rfl rfl ?_
        obtain ⟨t4, h0, h⟩ := xs_some h
        obtain ⟨e0, e1, e2, e3⟩ := xkI_some h0
        subst e3
        refine px_cild rfl e0 e1 e2 rfl ?_
        refine px_ld rfl rfl rfl rfl rfl ?_
        refine px_ldc2 rfl rfl rfl ?_
        obtain ⟨fs, h0, h⟩ := xs_some h
        have e1 := xo_some h0
        obtain ⟨u0, ph5, h0, h⟩ := xb_some h
        refine px_cV4 rfl rfl e1 rfl rfl rfl rfl rfl rfl rfl (r_Filler_writeRow h0 :) (fun _ _ q => nomatch q.2) (fun r ph' q => ?_)
        obtain ⟨rfl, q⟩ := q
        cases q
        exact (r_Filler_write_37 @ih h :)
def f_Filler_write (F : Nat) (c : px_CT) (a0 : Nat) (ph : px_H) : Option (Unit × px_H) :=
  (xo ph 1 a0).bind fun _ =>
  xb (f_Filler_writeHead F c a0 ph) fun _ ph1 =>
  f_Filler_write_6 F c F a0 (nI 0) ph1
theorem r_Filler_write {l : Launch} {g : px_G} {d F : Nat} {a0 : Nat} {ph : px_H} {r : Unit} {ph' : px_H} (h : f_Filler_write F (px_ct g) a0 ph = some (r, ph')) : PW l g (d + 5) m_Filler_write 0 [.ref a0, px_u, px_u] [] ph (px_qV r ph') := by
  unfold f_Filler_write at h
  refine px_ld rfl rfl rfl rfl rfl ?_
  obtain ⟨fs, h0, h⟩ := xs_some h
  have e1 := xo_some h0
  obtain ⟨u0, ph1, h0, h⟩ := xb_some h
  refine px_cV0 rfl rfl e1 rfl rfl rfl rfl rfl rfl rfl (r_Filler_writeHead h0 :) (fun _ _ q => nomatch q.2) (fun r ph' q => ?_)
  obtain ⟨rfl, q⟩ := q
  cases q
  refine px_ic (k := 0) rfl rfl rfl ?_
  refine px_st (lv' := [_, _, _]) rfl rfl rfl rfl rfl rfl rfl ?_
  exact (r_Filler_write_6 _ h :)
def f_H_siteWidth_96 (F : Nat) (c : px_CT) (s0 : Int32) (ph : px_H) : Option (Int32 × px_H) :=
  some (s0, ph)
theorem r_H_siteWidth_96 {l : Launch} {g : px_G} {d F : Nat} {s0 : Int32} {ph : px_H} {r : Int32} {ph' : px_H} (h : f_H_siteWidth_96 F (px_ct g) s0 ph = some (r, ph')) : PW l g (d + 0) m_H_siteWidth 96 [px_u, px_u] [.int s0] ph (px_qI r ph') := by
  unfold f_H_siteWidth_96 at h
  cases h
  exact px_iret rfl (Or.inl rfl) rfl ⟨rfl, rfl⟩
def f_H_siteWidth_83 (F : Nat) (c : px_CT) (ph : px_H) : Option (Int32 × px_H) :=
  some (nI 4, ph)
theorem r_H_siteWidth_83 {l : Launch} {g : px_G} {d F : Nat} {ph : px_H} {r : Int32} {ph' : px_H} (h : f_H_siteWidth_83 F (px_ct g) ph = some (r, ph')) : PW l g (d + 0) m_H_siteWidth 83 [px_u, px_u] [] ph (px_qI r ph') := by
  unfold f_H_siteWidth_83 at h
  refine px_ic (k := 4) rfl rfl rfl ?_
  cases h
  exact px_iret rfl (Or.inl rfl) rfl ⟨rfl, rfl⟩
def f_H_siteWidth_51 (F : Nat) (c : px_CT) (a0 : Int64) (ph : px_H) : Option (Int32 × px_H) :=
  if a0 = ((22 : Int64)) then
    f_H_siteWidth_83 F c ph
  else
    if a0 = ((23 : Int64)) then
      f_H_siteWidth_83 F c ph
    else
      if a0 = ((41 : Int64)) then
        f_H_siteWidth_83 F c ph
      else
        if a0 = ((42 : Int64)) then
          f_H_siteWidth_83 F c ph
        else
          if a0 = (lN 0) then
            f_H_siteWidth_96 F c (nI 0) ph
          else
            f_H_siteWidth_96 F c (Int32.ofInt (-1)) ph
theorem r_H_siteWidth_51 {l : Launch} {g : px_G} {d F : Nat} {a0 : Int64} {ph : px_H} {r : Int32} {ph' : px_H} (h : f_H_siteWidth_51 F (px_ct g) a0 ph = some (r, ph')) : PW l g (d + 0) m_H_siteWidth 51 [.long a0, px_u] [] ph (px_qI r ph') := by
  unfold f_H_siteWidth_51 at h
  refine px_ld rfl rfl rfl rfl rfl ?_
  refine px_ldc2 rfl rfl rfl ?_
  refine px_alu rfl rfl rfl ?_
  refine px_ifeq rfl rfl rfl (fun hc => ?_) (fun hc => ?_)
  · replace h := (if_pos ((lg_cmp_eq _ _).mp hc)).symm.trans h
    refine px_forget (n := 0) (lv' := [_, _]) rfl ?_
    exact (r_H_siteWidth_83 h :)
  · replace h := (if_neg (fun q => hc ((lg_cmp_eq _ _).mpr q))).symm.trans h
    refine px_ld rfl rfl rfl rfl rfl ?_
    refine px_ldc2 rfl rfl rfl ?_
    refine px_alu rfl rfl rfl ?_
    refine px_ifeq rfl rfl rfl (fun hc => ?_) (fun hc => ?_)
    · replace h := (if_pos ((lg_cmp_eq _ _).mp hc)).symm.trans h
      refine px_forget (n := 0) (lv' := [_, _]) rfl ?_
      exact (r_H_siteWidth_83 h :)
    · replace h := (if_neg (fun q => hc ((lg_cmp_eq _ _).mpr q))).symm.trans h
      refine px_ld rfl rfl rfl rfl rfl ?_
      refine px_ldc2 rfl rfl rfl ?_
      refine px_alu rfl rfl rfl ?_
      refine px_ifeq rfl rfl rfl (fun hc => ?_) (fun hc => ?_)
      · replace h := (if_pos ((lg_cmp_eq _ _).mp hc)).symm.trans h
        refine px_forget (n := 0) (lv' := [_, _]) rfl ?_
        exact (r_H_siteWidth_83 h :)
      · replace h := (if_neg (fun q => hc ((lg_cmp_eq _ _).mpr q))).symm.trans h
        refine px_ld rfl rfl rfl rfl rfl ?_
        refine px_ldc2 rfl rfl rfl ?_
        refine px_alu rfl rfl rfl ?_
        refine px_ifne rfl rfl rfl (fun hc => ?_) (fun hc => ?_)
        · replace h := (if_neg (fun q => hc ((lg_cmp_eq _ _).mpr q))).symm.trans h
          refine px_ld rfl rfl rfl rfl rfl ?_
          refine px_alu rfl rfl rfl ?_
          refine px_alu rfl rfl rfl ?_
          refine px_ifne rfl rfl rfl (fun hc => ?_) (fun hc => ?_)
          · replace h := (if_neg (fun q => hc ((lg_cmp_eq _ _).mpr q))).symm.trans h
            refine px_alu rfl rfl rfl ?_
            refine px_forget (n := 0) (lv' := [_, _]) rfl ?_
            exact (r_H_siteWidth_96 h :)
          · replace h := (if_pos ((lg_cmp_eq _ _).mp hc)).symm.trans h
            refine px_ic (k := 0) rfl rfl rfl ?_
            refine px_goto rfl rfl rfl ?_
            refine px_forget (n := 0) (lv' := [_, _]) rfl ?_
            exact (r_H_siteWidth_96 h :)
        · replace h := (if_pos ((lg_cmp_eq _ _).mp hc)).symm.trans h
          refine px_forget (n := 0) (lv' := [_, _]) rfl ?_
          exact (r_H_siteWidth_83 h :)
def f_H_siteWidth_49 (F : Nat) (c : px_CT) (ph : px_H) : Option (Int32 × px_H) :=
  some (nI 4, ph)
theorem r_H_siteWidth_49 {l : Launch} {g : px_G} {d F : Nat} {ph : px_H} {r : Int32} {ph' : px_H} (h : f_H_siteWidth_49 F (px_ct g) ph = some (r, ph')) : PW l g (d + 0) m_H_siteWidth 49 [px_u, px_u] [] ph (px_qI r ph') := by
  unfold f_H_siteWidth_49 at h
  refine px_ic (k := 4) rfl rfl rfl ?_
  cases h
  exact px_iret rfl (Or.inl rfl) rfl ⟨rfl, rfl⟩
def f_H_siteWidth_14 (F : Nat) (c : px_CT) (ph : px_H) : Option (Int32 × px_H) :=
  some (nI 8, ph)
theorem r_H_siteWidth_14 {l : Launch} {g : px_G} {d F : Nat} {ph : px_H} {r : Int32} {ph' : px_H} (h : f_H_siteWidth_14 F (px_ct g) ph = some (r, ph')) : PW l g (d + 0) m_H_siteWidth 14 [px_u, px_u] [] ph (px_qI r ph') := by
  unfold f_H_siteWidth_14 at h
  refine px_ic (k := 8) rfl rfl rfl ?_
  cases h
  exact px_iret rfl (Or.inl rfl) rfl ⟨rfl, rfl⟩
def f_H_siteWidth (F : Nat) (c : px_CT) (a0 : Int64) (ph : px_H) : Option (Int32 × px_H) :=
  if a0 = (lN 1) then
    f_H_siteWidth_14 F c ph
  else
    if a0 = ((18 : Int64)) then
      f_H_siteWidth_14 F c ph
    else
      if a0 = ((2 : Int64)) then
        f_H_siteWidth_49 F c ph
      else
        if a0 = ((4 : Int64)) then
          f_H_siteWidth_49 F c ph
        else
          if a0 < ((9 : Int64)) then
            f_H_siteWidth_51 F c a0 ph
          else
            if ((11 : Int64)) < a0 then
              f_H_siteWidth_51 F c a0 ph
            else
              f_H_siteWidth_49 F c ph
theorem r_H_siteWidth {l : Launch} {g : px_G} {d F : Nat} {a0 : Int64} {ph : px_H} {r : Int32} {ph' : px_H} (h : f_H_siteWidth F (px_ct g) a0 ph = some (r, ph')) : PW l g (d + 0) m_H_siteWidth 0 [.long a0, px_u] [] ph (px_qI r ph') := by
  unfold f_H_siteWidth at h
  refine px_ld rfl rfl rfl rfl rfl ?_
  refine px_alu rfl rfl rfl ?_
  refine px_alu rfl rfl rfl ?_
  refine px_ifeq rfl rfl rfl (fun hc => ?_) (fun hc => ?_)
  · replace h := (if_pos ((lg_cmp_eq _ _).mp hc)).symm.trans h
    refine px_forget (n := 0) (lv' := [_, _]) rfl ?_
    exact (r_H_siteWidth_14 h :)
  · replace h := (if_neg (fun q => hc ((lg_cmp_eq _ _).mpr q))).symm.trans h
    refine px_ld rfl rfl rfl rfl rfl ?_
    refine px_ldc2 rfl rfl rfl ?_
    refine px_alu rfl rfl rfl ?_
    refine px_ifne rfl rfl rfl (fun hc => ?_) (fun hc => ?_)
    · replace h := (if_neg (fun q => hc ((lg_cmp_eq _ _).mpr q))).symm.trans h
      refine px_ld rfl rfl rfl rfl rfl ?_
      refine px_ldc2 rfl rfl rfl ?_
      refine px_alu rfl rfl rfl ?_
      refine px_ifeq rfl rfl rfl (fun hc => ?_) (fun hc => ?_)
      · replace h := (if_pos ((lg_cmp_eq _ _).mp hc)).symm.trans h
        refine px_forget (n := 0) (lv' := [_, _]) rfl ?_
        exact (r_H_siteWidth_49 h :)
      · replace h := (if_neg (fun q => hc ((lg_cmp_eq _ _).mpr q))).symm.trans h
        refine px_ld rfl rfl rfl rfl rfl ?_
        refine px_ldc2 rfl rfl rfl ?_
        refine px_alu rfl rfl rfl ?_
        refine px_ifeq rfl rfl rfl (fun hc => ?_) (fun hc => ?_)
        · replace h := (if_pos ((lg_cmp_eq _ _).mp hc)).symm.trans h
          refine px_forget (n := 0) (lv' := [_, _]) rfl ?_
          exact (r_H_siteWidth_49 h :)
        · replace h := (if_neg (fun q => hc ((lg_cmp_eq _ _).mpr q))).symm.trans h
          refine px_ld rfl rfl rfl rfl rfl ?_
          refine px_ldc2 rfl rfl rfl ?_
          refine px_alu rfl rfl rfl ?_
          refine px_iflt rfl rfl rfl (fun hc => ?_) (fun hc => ?_)
          · replace h := (if_pos ((lg_cmp_lt _ _).mp hc)).symm.trans h
            exact (r_H_siteWidth_51 h :)
          · replace h := (if_neg (fun q => hc ((lg_cmp_lt _ _).mpr q))).symm.trans h
            refine px_ld rfl rfl rfl rfl rfl ?_
            refine px_ldc2 rfl rfl rfl ?_
            refine px_alu rfl rfl rfl ?_
            refine px_ifgt rfl rfl rfl (fun hc => ?_) (fun hc => ?_)
            · replace h := (if_pos ((lg_cmp_gt _ _).mp hc)).symm.trans h
              exact (r_H_siteWidth_51 h :)
            · replace h := (if_neg (fun q => hc ((lg_cmp_gt _ _).mpr q))).symm.trans h
              refine px_forget (n := 0) (lv' := [_, _]) rfl ?_
              exact (r_H_siteWidth_49 h :)
    · replace h := (if_pos ((lg_cmp_eq _ _).mp hc)).symm.trans h
      refine px_forget (n := 0) (lv' := [_, _]) rfl ?_
      exact (r_H_siteWidth_14 h :)
def f_Filler_fillShort_251 (F : Nat) (c : px_CT) (s0 : Int32) (ph : px_H) : Option (Int32 × px_H) :=
  xz s0 ph
theorem r_Filler_fillShort_251 {l : Launch} {g : px_G} {d F : Nat} {s0 : Int32} {ph : px_H} {r : Int32} {ph' : px_H} (h : f_Filler_fillShort_251 F (px_ct g) s0 ph = some (r, ph')) : PW l g (d + 3) m_Filler_fillShort 251 [px_u, px_u, px_u, px_u, px_u, px_u, px_u, px_u, px_u, px_u, px_u, px_u] [.int s0] ph (px_qI r ph') := by
  unfold f_Filler_fillShort_251 at h
  obtain ⟨e0, e1, e2⟩ := xz_some h
  subst e1 e2
  exact px_iret rfl (Or.inr ⟨rfl, e0⟩) rfl ⟨rfl, rfl⟩
def f_Filler_fillShort_236 (F : Nat) (c : px_CT) (a10 : Int64) (ph : px_H) : Option (Int32 × px_H) :=
  if a10 = a10.toInt32.toInt64 then
    f_Filler_fillShort_251 F c (nI 1) ph
  else
    f_Filler_fillShort_251 F c (nI 0) ph
theorem r_Filler_fillShort_236 {l : Launch} {g : px_G} {d F : Nat} {a10 : Int64} {ph : px_H} {r : Int32} {ph' : px_H} (h : f_Filler_fillShort_236 F (px_ct g) a10 ph = some (r, ph')) : PW l g (d + 3) m_Filler_fillShort 236 [px_u, px_u, px_u, px_u, px_u, px_u, px_u, px_u, px_u, px_u, .long a10, px_u] [] ph (px_qI r ph') := by
  unfold f_Filler_fillShort_236 at h
  refine px_ld rfl rfl rfl rfl rfl ?_
  refine px_ld rfl rfl rfl rfl rfl ?_
  refine px_alu rfl rfl rfl ?_
  refine px_alu rfl rfl rfl ?_
  refine px_alu rfl rfl rfl ?_
  refine px_ifne rfl (by decide) rfl (fun hc => ?_) (fun hc => ?_)
  · replace h := (if_neg (fun q => hc ((lg_cmp_eq _ _).mpr q))).symm.trans h
    refine px_ic (k := 0) rfl rfl rfl ?_
    refine px_forget (n := 10) (lv' := [_, _, _, _, _, _, _, _, _, _, _, _]) rfl ?_
    exact (r_Filler_fillShort_251 h :)
  · replace h := (if_pos ((lg_cmp_eq _ _).mp hc)).symm.trans h
    refine px_ic (k := 1) rfl rfl rfl ?_
    refine px_goto rfl (by decide) rfl ?_
    refine px_forget (n := 10) (lv' := [_, _, _, _, _, _, _, _, _, _, _, _]) rfl ?_
    exact (r_Filler_fillShort_251 h :)
def f_Filler_fillShort (F : Nat) (c : px_CT) (a0 : Nat) (a1 : Int32) (a2 : Int32) (a3 : Option Nat) (ph : px_H) : Option (Int32 × px_H) :=
  (xgR ph 1 0 a0).bind fun t1 =>
  (xo ph 3 t1).bind fun _ =>
  xb (f_Link_object F c t1 a1 ph) fun t2 ph3 =>
  (t2).bind fun p4 =>
  (xo ph3 7 p4).bind fun _ =>
  xb (f_ObjectFile_num F c p4 a2 (nI 8) ph3) fun t5 ph6 =>
  (xo ph6 1 a0).bind fun _ =>
  xb (f_Filler_spotOf F c a0 a3 ph6) fun t7 ph8 =>
  (a3).bind fun p9 =>
  (xgI ph8 8 7 p9).bind fun t10 =>
  (xgI ph8 7 5 p4).bind fun t11 =>
  (xgJ ph8 8 11 p9).bind fun t12 =>
  (xgR ph8 1 1 a0).bind fun t13 =>
  (xo ph8 7 p4).bind fun _ =>
  xb (f_ObjectFile_num F c p4 (a2 + (nI 12)) (nI 4) ph8) fun t14 ph15 =>
  (xo ph15 2 t13).bind fun _ =>
  xb (f_Layout_symbolAddress F c t13 a1 t14.toInt32 ph15) fun t16 ph17 =>
  (xo ph17 7 p4).bind fun _ =>
  xb (f_ObjectFile_num F c p4 (a2 + (nI 16)) (nI 8) ph17) fun t18 ph19 =>
  (xo ph19 7 p4).bind fun _ =>
  xb (f_ObjectFile_num F c p4 (((t10 - t11) + t5.toInt32) - (nI 2)) (nI 1) ph19) fun t20 ph21 =>
  if t20 = ((139 : Int64)) then
    (xgR ph21 1 4 a0).bind fun t34 =>
    (xo ph21 10 t34).bind fun _ =>
    xb (f_Row_set F c t34 ((t7 + t5.toInt32) - (nI 2)) (nI 1) ((141 : Int64)) ph21) fun _ ph35 =>
    (xgR ph35 1 4 a0).bind fun t36 =>
    (xo ph35 10 t36).bind fun _ =>
    xb (f_Row_set F c t36 (t7 + t5.toInt32) (nI 4) ((t16 + t18) - (t12 + t5.toInt32.toInt64)) ph35) fun _ ph37 =>
    f_Filler_fillShort_236 F c ((t16 + t18) - (t12 + t5.toInt32.toInt64)) ph37
  else
    (xo ph21 7 p4).bind fun _ =>
    xb (f_ObjectFile_num F c p4 ((((t10 - t11) + t5.toInt32) - (nI 2)) + (nI 1)) (nI 1) ph21) fun t22 ph23 =>
    if t22 = ((21 : Int64)) then
      (xgR ph23 1 4 a0).bind fun t30 =>
      (xo ph23 10 t30).bind fun _ =>
      xb (f_Row_set F c t30 ((t7 + t5.toInt32) - (nI 2)) (nI 2) ((59495 : Int64)) ph23) fun _ ph31 =>
      (xgR ph31 1 4 a0).bind fun t32 =>
      (xo ph31 10 t32).bind fun _ =>
      xb (f_Row_set F c t32 (t7 + t5.toInt32) (nI 4) ((t16 + t18) - (t12 + t5.toInt32.toInt64)) ph31) fun _ ph33 =>
      f_Filler_fillShort_236 F c ((t16 + t18) - (t12 + t5.toInt32.toInt64)) ph33
    else
      (xgR ph23 1 4 a0).bind fun t24 =>
      (xo ph23 10 t24).bind fun _ =>
      xb (f_Row_set F c t24 ((t7 + t5.toInt32) - (nI 2)) (nI 1) ((233 : Int64)) ph23) fun _ ph25 =>
      (xgR ph25 1 4 a0).bind fun t26 =>
      (xo ph25 10 t26).bind fun _ =>
      xb (f_Row_set F c t26 ((t7 + t5.toInt32) - (nI 1)) (nI 4) (((t16 + t18) - (t12 + t5.toInt32.toInt64)) + (lN 1)) ph25) fun _ ph27 =>
      (xgR ph27 1 4 a0).bind fun t28 =>
      (xo ph27 10 t28).bind fun _ =>
      xb (f_Row_set F c t28 ((t7 + t5.toInt32) + (nI 3)) (nI 1) ((144 : Int64)) ph27) fun _ ph29 =>
      f_Filler_fillShort_236 F c (((t16 + t18) - (t12 + t5.toInt32.toInt64)) + (lN 1)) ph29
theorem r_Filler_fillShort {l : Launch} {g : px_G} {d F : Nat} {a0 : Nat} {a1 : Int32} {a2 : Int32} {a3 : Option Nat} {ph : px_H} {r : Int32} {ph' : px_H} (h : f_Filler_fillShort F (px_ct g) a0 a1 a2 a3 ph = some (r, ph')) : PW l g (d + 3) m_Filler_fillShort 0 [.ref a0, .int a1, .int a2, va_rf a3, px_u, px_u, px_u, px_u, px_u, px_u, px_u, px_u] [] ph (px_qI r ph') := by
  unfold f_Filler_fillShort at h
  refine px_ld rfl rfl rfl rfl rfl ?_
  obtain ⟨t1, h0, h⟩ := xs_some h
  obtain ⟨fs, e1, e2⟩ := xgR_some h0
  refine px_get rfl e1 e2 rfl ?_
  refine px_ld rfl rfl rfl rfl rfl ?_
  obtain ⟨fs, h0, h⟩ := xs_some h
  have e1 := xo_some h0
  obtain ⟨t2, ph3, h0, h⟩ := xb_some h
  refine px_cV1 rfl rfl e1 rfl rfl rfl rfl rfl rfl rfl (r_Link_object h0 :) (fun _ _ q => nomatch q.2) (fun r ph' q => ?_)
  obtain ⟨rfl, q⟩ := q
  cases q
  refine px_st (lv' := [.ref a0, .int a1, .int a2, va_rf a3, va_rf t2, px_u, px_u, px_u, px_u, px_u, px_u, px_u]) rfl rfl (by first | rfl | (cases t2 <;> rfl)) (by first | rfl | (cases t2 <;> rfl)) (by first | rfl | (cases a3 <;> rfl)) (by first | rfl | (cases t2 <;> rfl)) rfl ?_
  refine px_ld rfl rfl rfl (by first | rfl | (cases t2 <;> rfl)) rfl ?_
  refine px_ld rfl rfl rfl rfl rfl ?_
  refine px_ic (k := 8) rfl rfl rfl ?_
  obtain ⟨p4, h0, h⟩ := xs_some h
  revert h
  subst h0
  intro h
  obtain ⟨fs, h0, h⟩ := xs_some h
  have e1 := xo_some h0
  obtain ⟨t5, ph6, h0, h⟩ := xb_some h
  refine px_cV2 rfl rfl e1 rfl rfl rfl rfl rfl rfl rfl (r_ObjectFile_num h0 :) (fun _ _ q => nomatch q.2) (fun r ph' q => ?_)
  obtain ⟨rfl, q⟩ := q
  cases q
  refine px_alu rfl rfl rfl ?_
  refine px_st (lv' := [_, _, _, _, _, _, _, _, _, _, _, _]) rfl rfl rfl rfl rfl rfl rfl ?_
  refine px_ld rfl rfl rfl rfl rfl ?_
  refine px_ld rfl rfl rfl (by first | rfl | (cases a3 <;> rfl)) rfl ?_
  obtain ⟨fs, h0, h⟩ := xs_some h
  have e1 := xo_some h0
  obtain ⟨t7, ph8, h0, h⟩ := xb_some h
  refine px_cV1 (lv0 := [.ref a0, va_rf a3, px_u]) rfl rfl e1 rfl rfl rfl (by first | rfl | (cases a3 <;> rfl)) rfl (by first | rfl | (cases a3 <;> rfl)) rfl (r_Filler_spotOf h0 :) (fun _ _ q => nomatch q.2) (fun r ph' q => ?_)
  obtain ⟨rfl, q⟩ := q
  cases q
  refine px_ld rfl rfl rfl rfl rfl ?_
  refine px_alu rfl rfl rfl ?_
  refine px_st (lv' := [_, _, _, _, _, _, _, _, _, _, _, _]) rfl rfl rfl rfl rfl rfl rfl ?_
  refine px_ld rfl rfl rfl (by first | rfl | (cases a3 <;> rfl)) rfl ?_
  obtain ⟨p9, h0, h⟩ := xs_some h
  revert h
  subst h0
  intro h
  obtain ⟨t10, h0, h⟩ := xs_some h
  obtain ⟨fs, e1, e2⟩ := xgI_some h0
  refine px_get rfl e1 e2 rfl ?_
  refine px_ld rfl rfl rfl rfl rfl ?_
  obtain ⟨t11, h0, h⟩ := xs_some h
  obtain ⟨fs, e1, e2⟩ := xgI_some h0
  refine px_get rfl e1 e2 rfl ?_
  refine px_alu rfl rfl rfl ?_
  refine px_ld rfl rfl rfl rfl rfl ?_
  refine px_alu rfl rfl rfl ?_
  refine px_ic (k := 2) rfl rfl rfl ?_
  refine px_alu rfl rfl rfl ?_
  refine px_st (lv' := [_, _, _, _, _, _, _, _, _, _, _, _]) rfl rfl rfl rfl rfl rfl rfl ?_
  refine px_ld rfl rfl rfl rfl rfl ?_
  obtain ⟨t12, h0, h⟩ := xs_some h
  obtain ⟨fs, e1, e2⟩ := xgJ_some h0
  refine px_get rfl e1 e2 rfl ?_
  refine px_ld rfl rfl rfl rfl rfl ?_
  refine px_alu rfl rfl rfl ?_
  refine px_alu rfl rfl rfl ?_
  refine px_st (lv' := [_, _, _, _, _, _, _, _, _, _, _, _]) rfl rfl rfl rfl rfl rfl rfl ?_
  refine px_ld rfl rfl rfl rfl rfl ?_
  obtain ⟨t13, h0, h⟩ := xs_some h
  obtain ⟨fs, e1, e2⟩ := xgR_some h0
  refine px_get rfl e1 e2 rfl ?_
  refine px_ld rfl rfl rfl rfl rfl ?_
  refine px_ld rfl rfl rfl rfl rfl ?_
  refine px_ld rfl rfl rfl rfl rfl ?_
  refine px_ic (k := 12) rfl rfl rfl ?_
  refine px_alu rfl rfl rfl ?_
  refine px_ic (k := 4) rfl rfl rfl ?_
  obtain ⟨fs, h0, h⟩ := xs_some h
  have e1 := xo_some h0
  obtain ⟨t14, ph15, h0, h⟩ := xb_some h
  refine px_cV2 rfl rfl e1 rfl rfl rfl rfl rfl rfl rfl (r_ObjectFile_num h0 :) (fun _ _ q => nomatch q.2) (fun r ph' q => ?_)
  obtain ⟨rfl, q⟩ := q
  cases q
  refine px_alu rfl rfl rfl ?_
  obtain ⟨fs, h0, h⟩ := xs_some h
  have e1 := xo_some h0
  obtain ⟨t16, ph17, h0, h⟩ := xb_some h
  refine px_cV2 rfl rfl e1 rfl rfl rfl rfl rfl rfl rfl (r_Layout_symbolAddress h0 :) (fun _ _ q => nomatch q.2) (fun r ph' q => ?_)
  obtain ⟨rfl, q⟩ := q
  cases q
  refine px_ld rfl rfl rfl rfl rfl ?_
  refine px_ld rfl rfl rfl rfl rfl ?_
  refine px_ic (k := 16) rfl rfl rfl ?_
  refine px_alu rfl rfl rfl ?_
  refine px_ic (k := 8) rfl rfl rfl ?_
  obtain ⟨fs, h0, h⟩ := xs_some h
  have e1 := xo_some h0
  obtain ⟨t18, ph19, h0, h⟩ := xb_some h
  refine px_cV2 rfl rfl e1 rfl rfl rfl rfl rfl rfl rfl (r_ObjectFile_num h0 :) (fun _ _ q => nomatch q.2) (fun r ph' q => ?_)
  obtain ⟨rfl, q⟩ := q
  cases q
  refine px_alu rfl rfl rfl ?_
  refine px_ld rfl rfl rfl rfl rfl ?_
  refine px_alu rfl rfl rfl ?_
  refine px_st (lv' := [_, _, _, _, _, _, _, _, _, _, _, _]) rfl rfl rfl rfl rfl rfl rfl ?_
  refine px_ld rfl rfl rfl rfl rfl ?_
  refine px_ld rfl rfl rfl rfl rfl ?_
  refine px_ic (k := 1) rfl rfl rfl ?_
  obtain ⟨fs, h0, h⟩ := xs_some h
  have e1 := xo_some h0
  obtain ⟨t20, ph21, h0, h⟩ := xb_some h
  refine px_cV2 rfl rfl e1 rfl rfl rfl rfl rfl rfl rfl (r_ObjectFile_num h0 :) (fun _ _ q => nomatch q.2) (fun r ph' q => ?_)
  obtain ⟨rfl, q⟩ := q
  cases q
  refine px_ldc2 rfl rfl rfl ?_
  refine px_alu rfl rfl rfl ?_
  refine px_ifne rfl (by decide) rfl (fun hc => ?_) (fun hc => ?_)
  · replace h := (if_neg (fun q => hc ((lg_cmp_eq _ _).mpr q))).symm.trans h
    refine px_ld rfl rfl rfl rfl rfl ?_
    refine px_ld rfl rfl rfl rfl rfl ?_
    refine px_ic (k := 1) rfl rfl rfl ?_
    refine px_alu rfl rfl rfl ?_
    refine px_ic (k := 1) rfl rfl rfl ?_
    obtain ⟨fs, h0, h⟩ := xs_some h
    have e1 := xo_some h0
    obtain ⟨t22, ph23, h0, h⟩ := xb_some h
    refine px_cV2 rfl rfl e1 rfl rfl rfl rfl rfl rfl rfl (r_ObjectFile_num h0 :) (fun _ _ q => nomatch q.2) (fun r ph' q => ?_)
    obtain ⟨rfl, q⟩ := q
    cases q
    refine px_ldc2 rfl rfl rfl ?_
    refine px_alu rfl rfl rfl ?_
    refine px_ifne rfl (by decide) rfl (fun hc => ?_) (fun hc => ?_)
    · replace h := (if_neg (fun q => hc ((lg_cmp_eq _ _).mpr q))).symm.trans h
      refine px_ld rfl rfl rfl rfl rfl ?_
      refine px_alu rfl rfl rfl ?_
      refine px_alu rfl rfl rfl ?_
      refine px_st (lv' := [_, _, _, _, _, _, _, _, _, _, _, _]) rfl rfl rfl rfl rfl rfl rfl ?_
      refine px_ld rfl rfl rfl rfl rfl ?_
      obtain ⟨t24, h0, h⟩ := xs_some h
      obtain ⟨fs, e1, e2⟩ := xgR_some h0
      refine px_get rfl e1 e2 rfl ?_
      refine px_ld rfl rfl rfl rfl rfl ?_
      refine px_ic (k := 2) rfl rfl rfl ?_
      refine px_alu rfl rfl rfl ?_
      refine px_ic (k := 1) rfl rfl rfl ?_
      refine px_ldc2 rfl rfl rfl ?_
      obtain ⟨fs, h0, h⟩ := xs_some h
      have e1 := xo_some h0
      obtain ⟨u0, ph25, h0, h⟩ := xb_some h
      refine px_cV3 rfl rfl e1 rfl rfl rfl rfl rfl rfl rfl (r_Row_set h0 :) (fun _ _ q => nomatch q.2) (fun r ph' q => ?_)
      obtain ⟨rfl, q⟩ := q
      cases q
      refine px_ld rfl rfl rfl rfl rfl ?_
      obtain ⟨t26, h0, h⟩ := xs_some h
      obtain ⟨fs, e1, e2⟩ := xgR_some h0
      refine px_get rfl e1 e2 rfl ?_
      refine px_ld rfl rfl rfl rfl rfl ?_
      refine px_ic (k := 1) rfl rfl rfl ?_
      refine px_alu rfl rfl rfl ?_
      refine px_ic (k := 4) rfl rfl rfl ?_
      refine px_ld rfl rfl rfl rfl rfl ?_
      obtain ⟨fs, h0, h⟩ := xs_some h
      have e1 := xo_some h0
      obtain ⟨u0, ph27, h0, h⟩ := xb_some h
      refine px_cV3 rfl rfl e1 rfl rfl rfl rfl rfl rfl rfl (r_Row_set h0 :) (fun _ _ q => nomatch q.2) (fun r ph' q => ?_)
      obtain ⟨rfl, q⟩ := q
      cases q
      refine px_ld rfl rfl rfl rfl rfl ?_
      obtain ⟨t28, h0, h⟩ := xs_some h
      obtain ⟨fs, e1, e2⟩ := xgR_some h0
      refine px_get rfl e1 e2 rfl ?_
      refine px_ld rfl rfl rfl rfl rfl ?_
      refine px_ic (k := 3) rfl rfl rfl ?_
      refine px_alu rfl rfl rfl ?_
      refine px_ic (k := 1) rfl rfl rfl ?_
      refine px_ldc2 rfl rfl rfl ?_
      obtain ⟨fs, h0, h⟩ := xs_some h
      have e1 := xo_some h0
      obtain ⟨u0, ph29, h0, h⟩ := xb_some h
      refine px_cV3 rfl rfl e1 rfl rfl rfl rfl rfl rfl rfl (r_Row_set h0 :) (fun _ _ q => nomatch q.2) (fun r ph' q => ?_)
      obtain ⟨rfl, q⟩ := q
      cases q
      refine px_forget (n := 0) (lv' := [_, _, _, _, _, _, _, _, _, _, _, _]) rfl ?_
      refine px_forget (n := 1) (lv' := [_, _, _, _, _, _, _, _, _, _, _, _]) rfl ?_
      refine px_forget (n := 2) (lv' := [_, _, _, _, _, _, _, _, _, _, _, _]) rfl ?_
      refine px_forget (n := 3) (lv' := [_, _, _, _, _, _, _, _, _, _, _, _]) rfl ?_
      refine px_forget (n := 4) (lv' := [_, _, _, _, _, _, _, _, _, _, _, _]) rfl ?_
      refine px_forget (n := 5) (lv' := [_, _, _, _, _, _, _, _, _, _, _, _]) rfl ?_
      refine px_forget (n := 6) (lv' := [_, _, _, _, _, _, _, _, _, _, _, _]) rfl ?_
      refine px_forget (n := 7) (lv' := [_, _, _, _, _, _, _, _, _, _, _, _]) rfl ?_
      refine px_forget (n := 8) (lv' := [_, _, _, _, _, _, _, _, _, _, _, _]) rfl ?_
      exact (r_Filler_fillShort_236 h :)
    · replace h := (if_pos ((lg_cmp_eq _ _).mp hc)).symm.trans h
      refine px_ld rfl rfl rfl rfl rfl ?_
      obtain ⟨t30, h0, h⟩ := xs_some h
      obtain ⟨fs, e1, e2⟩ := xgR_some h0
      refine px_get rfl e1 e2 rfl ?_
      refine px_ld rfl rfl rfl rfl rfl ?_
      refine px_ic (k := 2) rfl rfl rfl ?_
      refine px_alu rfl rfl rfl ?_
      refine px_ic (k := 2) rfl rfl rfl ?_
      refine px_ldc2 rfl rfl rfl ?_
      obtain ⟨fs, h0, h⟩ := xs_some h
      have e1 := xo_some h0
      obtain ⟨u0, ph31, h0, h⟩ := xb_some h
      refine px_cV3 rfl rfl e1 rfl rfl rfl rfl rfl rfl rfl (r_Row_set h0 :) (fun _ _ q => nomatch q.2) (fun r ph' q => ?_)
      obtain ⟨rfl, q⟩ := q
      cases q
      refine px_ld rfl rfl rfl rfl rfl ?_
      obtain ⟨t32, h0, h⟩ := xs_some h
      obtain ⟨fs, e1, e2⟩ := xgR_some h0
      refine px_get rfl e1 e2 rfl ?_
      refine px_ld rfl rfl rfl rfl rfl ?_
      refine px_ic (k := 4) rfl rfl rfl ?_
      refine px_ld rfl rfl rfl rfl rfl ?_
      obtain ⟨fs, h0, h⟩ := xs_some h
      have e1 := xo_some h0
      obtain ⟨u0, ph33, h0, h⟩ := xb_some h
      refine px_cV3 rfl rfl e1 rfl rfl rfl rfl rfl rfl rfl (r_Row_set h0 :) (fun _ _ q => nomatch q.2) (fun r ph' q => ?_)
      obtain ⟨rfl, q⟩ := q
      cases q
      refine px_goto rfl (by decide) rfl ?_
      refine px_forget (n := 0) (lv' := [_, _, _, _, _, _, _, _, _, _, _, _]) rfl ?_
      refine px_forget (n := 1) (lv' := [_, _, _, _, _, _, _, _, _, _, _, _]) rfl ?_
      refine px_forget (n := 2) (lv' := [_, _, _, _, _, _, _, _, _, _, _, _]) rfl ?_
      refine px_forget (n := 3) (lv' := [_, _, _, _, _, _, _, _, _, _, _, _]) rfl ?_
      refine px_forget (n := 4) (lv' := [_, _, _, _, _, _, _, _, _, _, _, _]) rfl ?_
      refine px_forget (n := 5) (lv' := [_, _, _, _, _, _, _, _, _, _, _, _]) rfl ?_
      refine px_forget (n := 6) (lv' := [_, _, _, _, _, _, _, _, _, _, _, _]) rfl ?_
      refine px_forget (n := 7) (lv' := [_, _, _, _, _, _, _, _, _, _, _, _]) rfl ?_
      refine px_forget (n := 8) (lv' := [_, _, _, _, _, _, _, _, _, _, _, _]) rfl ?_
      exact (r_Filler_fillShort_236 h :)
  · replace h := (if_pos ((lg_cmp_eq _ _).mp hc)).symm.trans h
    refine px_ld rfl rfl rfl rfl rfl ?_
    obtain ⟨t34, h0, h⟩ := xs_some h
    obtain ⟨fs, e1, e2⟩ := xgR_some h0
    refine px_get rfl e1 e2 rfl ?_
    refine px_ld rfl rfl rfl rfl rfl ?_
    refine px_ic (k := 2) rfl rfl rfl ?_
    refine px_alu rfl rfl rfl ?_
    refine px_ic (k := 1) rfl rfl rfl ?_
    refine px_ldc2 rfl rfl rfl ?_
    obtain ⟨fs, h0, h⟩ := xs_some h
    have e1 := xo_some h0
    obtain ⟨u0, ph35, h0, h⟩ := xb_some h
    refine px_cV3 rfl rfl e1 rfl rfl rfl rfl rfl rfl rfl (r_Row_set h0 :) (fun _ _ q => nomatch q.2) (fun r ph' q => ?_)
    obtain ⟨rfl, q⟩ := q
    cases q
    refine px_ld rfl rfl rfl rfl rfl ?_
    obtain ⟨t36, h0, h⟩ := xs_some h
    obtain ⟨fs, e1, e2⟩ := xgR_some h0
    refine px_get rfl e1 e2 rfl ?_
    refine px_ld rfl rfl rfl rfl rfl ?_
    refine px_ic (k := 4) rfl rfl rfl ?_
    refine px_ld rfl rfl rfl rfl rfl ?_
    obtain ⟨fs, h0, h⟩ := xs_some h
    have e1 := xo_some h0
    obtain ⟨u0, ph37, h0, h⟩ := xb_some h
    refine px_cV3 rfl rfl e1 rfl rfl rfl rfl rfl rfl rfl (r_Row_set h0 :) (fun _ _ q => nomatch q.2) (fun r ph' q => ?_)
    obtain ⟨rfl, q⟩ := q
    cases q
    refine px_goto rfl (by decide) rfl ?_
    refine px_forget (n := 0) (lv' := [_, _, _, _, _, _, _, _, _, _, _, _]) rfl ?_
    refine px_forget (n := 1) (lv' := [_, _, _, _, _, _, _, _, _, _, _, _]) rfl ?_
    refine px_forget (n := 2) (lv' := [_, _, _, _, _, _, _, _, _, _, _, _]) rfl ?_
    refine px_forget (n := 3) (lv' := [_, _, _, _, _, _, _, _, _, _, _, _]) rfl ?_
    refine px_forget (n := 4) (lv' := [_, _, _, _, _, _, _, _, _, _, _, _]) rfl ?_
    refine px_forget (n := 5) (lv' := [_, _, _, _, _, _, _, _, _, _, _, _]) rfl ?_
    refine px_forget (n := 6) (lv' := [_, _, _, _, _, _, _, _, _, _, _, _]) rfl ?_
    refine px_forget (n := 7) (lv' := [_, _, _, _, _, _, _, _, _, _, _, _]) rfl ?_
    refine px_forget (n := 8) (lv' := [_, _, _, _, _, _, _, _, _, _, _, _]) rfl ?_
    exact (r_Filler_fillShort_236 h :)
def f_Filler_slotAddress (F : Nat) (c : px_CT) (a0 : Nat) (a1 : Int32) (a2 : Int32) (a3 : Int32) (ph : px_H) : Option (Int64 × px_H) :=
  (xgR ph 1 1 a0).bind fun t1 =>
  (xgJ ph 2 13 t1).bind fun t2 =>
  (xgR ph 1 1 a0).bind fun t3 =>
  (xo ph 2 t3).bind fun _ =>
  xb (f_Layout_slotOf F c t3 a1 a2 a3 ph) fun t4 ph5 =>
  some (t2 + (((8 : Int64)) * ((t4 - (nI 1)).toInt64)), ph5)
theorem r_Filler_slotAddress {l : Launch} {g : px_G} {d F : Nat} {a0 : Nat} {a1 : Int32} {a2 : Int32} {a3 : Int32} {ph : px_H} {r : Int64} {ph' : px_H} (h : f_Filler_slotAddress F (px_ct g) a0 a1 a2 a3 ph = some (r, ph')) : PW l g (d + 2) m_Filler_slotAddress 0 [.ref a0, .int a1, .int a2, .int a3] [] ph (px_qJ r ph') := by
  unfold f_Filler_slotAddress at h
  refine px_ld rfl rfl rfl rfl rfl ?_
  obtain ⟨t1, h0, h⟩ := xs_some h
  obtain ⟨fs, e1, e2⟩ := xgR_some h0
  refine px_get rfl e1 e2 rfl ?_
  obtain ⟨t2, h0, h⟩ := xs_some h
  obtain ⟨fs, e1, e2⟩ := xgJ_some h0
  refine px_get rfl e1 e2 rfl ?_
  refine px_ldc2 rfl rfl rfl ?_
  refine px_ld rfl rfl rfl rfl rfl ?_
  obtain ⟨t3, h0, h⟩ := xs_some h
  obtain ⟨fs, e1, e2⟩ := xgR_some h0
  refine px_get rfl e1 e2 rfl ?_
  refine px_ld rfl rfl rfl rfl rfl ?_
  refine px_ld rfl rfl rfl rfl rfl ?_
  refine px_ld rfl rfl rfl rfl rfl ?_
  obtain ⟨fs, h0, h⟩ := xs_some h
  have e1 := xo_some h0
  obtain ⟨t4, ph5, h0, h⟩ := xb_some h
  refine px_cV3 rfl rfl e1 rfl rfl rfl rfl rfl rfl rfl (r_Layout_slotOf h0 :) (fun _ _ q => nomatch q.2) (fun r ph' q => ?_)
  obtain ⟨rfl, q⟩ := q
  cases q
  refine px_ic (k := 1) rfl rfl rfl ?_
  refine px_alu rfl rfl rfl ?_
  refine px_alu rfl rfl rfl ?_
  refine px_alu rfl rfl rfl ?_
  refine px_alu rfl rfl rfl ?_
  cases h
  exact px_lret rfl rfl rfl ⟨rfl, rfl⟩
def f_ObjectFile_kindOf (F : Nat) (c : px_CT) (a0 : Nat) (a1 : Int32) (ph : px_H) : Option (Int32 × px_H) :=
  (xgI ph 7 10 a0).bind fun t1 =>
  (xo ph 7 a0).bind fun _ =>
  xb (f_ObjectFile_num F c a0 ((t1 + ((nI 24) * a1)) + (nI 4)) (nI 1) ph) fun t2 ph3 =>
  some (t2.toInt32 &&& (nI 15), ph3)
theorem r_ObjectFile_kindOf {l : Launch} {g : px_G} {d F : Nat} {a0 : Nat} {a1 : Int32} {ph : px_H} {r : Int32} {ph' : px_H} (h : f_ObjectFile_kindOf F (px_ct g) a0 a1 ph = some (r, ph')) : PW l g (d + 1) m_ObjectFile_kindOf 0 [.ref a0, .int a1] [] ph (px_qI r ph') := by
  unfold f_ObjectFile_kindOf at h
  refine px_ld rfl rfl rfl rfl rfl ?_
  refine px_ld rfl rfl rfl rfl rfl ?_
  obtain ⟨t1, h0, h⟩ := xs_some h
  obtain ⟨fs, e1, e2⟩ := xgI_some h0
  refine px_get rfl e1 e2 rfl ?_
  refine px_ic (k := 24) rfl rfl rfl ?_
  refine px_ld rfl rfl rfl rfl rfl ?_
  refine px_alu rfl rfl rfl ?_
  refine px_alu rfl rfl rfl ?_
  refine px_ic (k := 4) rfl rfl rfl ?_
  refine px_alu rfl rfl rfl ?_
  refine px_ic (k := 1) rfl rfl rfl ?_
  obtain ⟨fs, h0, h⟩ := xs_some h
  have e1 := xo_some h0
  obtain ⟨t2, ph3, h0, h⟩ := xb_some h
  refine px_cV2 rfl rfl e1 rfl rfl rfl rfl rfl rfl rfl (r_ObjectFile_num h0 :) (fun _ _ q => nomatch q.2) (fun r ph' q => ?_)
  obtain ⟨rfl, q⟩ := q
  cases q
  refine px_alu rfl rfl rfl ?_
  refine px_ic (k := 15) rfl rfl rfl ?_
  refine px_alu rfl rfl rfl ?_
  cases h
  exact px_iret rfl (Or.inl rfl) rfl ⟨rfl, rfl⟩
def f_Filler_sumFor_108 (F : Nat) (c : px_CT) (a0 : Nat) (a2 : Int32) (a3 : Int32) (a4 : Int64) (ph : px_H) : Option (Int64 × px_H) :=
  (xgR ph 1 1 a0).bind fun t1 =>
  (xo ph 2 t1).bind fun _ =>
  xb (f_Layout_symbolAddress F c t1 a2 a3 ph) fun t2 ph3 =>
  some (t2 + a4, ph3)
theorem r_Filler_sumFor_108 {l : Launch} {g : px_G} {d F : Nat} {a0 : Nat} {a2 : Int32} {a3 : Int32} {a4 : Int64} {ph : px_H} {r : Int64} {ph' : px_H} (h : f_Filler_sumFor_108 F (px_ct g) a0 a2 a3 a4 ph = some (r, ph')) : PW l g (d + 3) m_Filler_sumFor 108 [.ref a0, px_u, .int a2, .int a3, .long a4, px_u, px_u, px_u, px_u] [] ph (px_qJ r ph') := by
  unfold f_Filler_sumFor_108 at h
  refine px_ld rfl rfl rfl rfl rfl ?_
  obtain ⟨t1, h0, h⟩ := xs_some h
  obtain ⟨fs, e1, e2⟩ := xgR_some h0
  refine px_get rfl e1 e2 rfl ?_
  refine px_ld rfl rfl rfl rfl rfl ?_
  refine px_ld rfl rfl rfl rfl rfl ?_
  obtain ⟨fs, h0, h⟩ := xs_some h
  have e1 := xo_some h0
  obtain ⟨t2, ph3, h0, h⟩ := xb_some h
  refine px_cV2 rfl rfl e1 rfl rfl rfl rfl rfl rfl rfl (r_Layout_symbolAddress h0 :) (fun _ _ q => nomatch q.2) (fun r ph' q => ?_)
  obtain ⟨rfl, q⟩ := q
  cases q
  refine px_ld rfl rfl rfl rfl rfl ?_
  refine px_alu rfl rfl rfl ?_
  cases h
  exact px_lret rfl rfl rfl ⟨rfl, rfl⟩
def f_Filler_sumFor_32 (F : Nat) (c : px_CT) (a0 : Nat) (a2 : Int32) (a3 : Int32) (a4 : Int64) (a6 : Option Nat) (s0 : Int32) (ph : px_H) : Option (Int64 × px_H) :=
  if s0 = 0 then
    f_Filler_sumFor_108 F c a0 a2 a3 a4 ph
  else
    if a3 ≤ 0 then
      f_Filler_sumFor_108 F c a0 a2 a3 a4 ph
    else
      (xgR ph 1 0 a0).bind fun t1 =>
      (xo ph 3 t1).bind fun _ =>
      xb (f_Link_nameOf F c t1 a2 a3 ph) fun t2 ph3 =>
      (match t2 with
        | none => (a6).bind fun p5 =>
        (xo ph3 7 p5).bind fun _ =>
        xb (f_ObjectFile_kindOf F c p5 a3 ph3) fun t6 ph7 =>
        if t6 = (nI 3) then
          (xgR ph7 1 0 a0).bind fun t8 =>
          (xo ph7 3 t8).bind fun _ =>
          xb (f_Link_partOf F c t8 a2 a3 ph7) fun t9 ph10 =>
          (match t9 with
            | none => f_Filler_sumFor_108 F c a0 a2 a3 a4 ph10
            | some p11 => (xgI ph10 8 10 p11).bind fun t12 =>
            if t12 = 0 then
              f_Filler_sumFor_108 F c a0 a2 a3 a4 ph10
            else
              (xgR ph10 1 2 a0).bind fun t13 =>
              (xo ph10 7 p5).bind fun _ =>
              xb (f_ObjectFile_valueOf F c p5 a3 ph10) fun t14 ph15 =>
              (xo ph15 9 t13).bind fun _ =>
              xb (f_Pool_addressIn F c t13 (some p11) (t14 + a4) ph15) fun t16 ph17 =>
              some (t16, ph17))
        else
          f_Filler_sumFor_108 F c a0 a2 a3 a4 ph7
        | some p4 => f_Filler_sumFor_108 F c a0 a2 a3 a4 ph3)
theorem r_Filler_sumFor_32 {l : Launch} {g : px_G} {d F : Nat} {a0 : Nat} {a2 : Int32} {a3 : Int32} {a4 : Int64} {a6 : Option Nat} {s0 : Int32} {ph : px_H} {r : Int64} {ph' : px_H} (h : f_Filler_sumFor_32 F (px_ct g) a0 a2 a3 a4 a6 s0 ph = some (r, ph')) : PW l g (d + 3) m_Filler_sumFor 32 [.ref a0, px_u, .int a2, .int a3, .long a4, px_u, va_rf a6, px_u, px_u] [.int s0] ph (px_qJ r ph') := by
  unfold f_Filler_sumFor_32 at h
  refine px_st (lv' := [.ref a0, px_u, .int a2, .int a3, .long a4, px_u, va_rf a6, .int s0, px_u]) rfl rfl rfl rfl (by first | rfl | (cases a6 <;> rfl)) rfl rfl ?_
  refine px_ld rfl rfl rfl rfl rfl ?_
  refine px_ifeq rfl (by decide) rfl (fun hc => ?_) (fun hc => ?_)
  · replace h := (if_pos hc).symm.trans h
    refine px_forget (n := 6) (lv' := [_, _, _, _, _, _, _, _, _]) rfl ?_
    refine px_forget (n := 7) (lv' := [_, _, _, _, _, _, _, _, _]) rfl ?_
    exact (r_Filler_sumFor_108 h :)
  · replace h := (if_neg hc).symm.trans h
    refine px_ld rfl rfl rfl rfl rfl ?_
    refine px_ifle rfl (by decide) rfl (fun hc => ?_) (fun hc => ?_)
    · replace h := (if_pos hc).symm.trans h
      refine px_forget (n := 6) (lv' := [_, _, _, _, _, _, _, _, _]) rfl ?_
      refine px_forget (n := 7) (lv' := [_, _, _, _, _, _, _, _, _]) rfl ?_
      exact (r_Filler_sumFor_108 h :)
    · replace h := (if_neg hc).symm.trans h
      refine px_ld rfl rfl rfl rfl rfl ?_
      obtain ⟨t1, h0, h⟩ := xs_some h
      obtain ⟨fs, e1, e2⟩ := xgR_some h0
      refine px_get rfl e1 e2 rfl ?_
      refine px_ld rfl rfl rfl rfl rfl ?_
      refine px_ld rfl rfl rfl rfl rfl ?_
      obtain ⟨fs, h0, h⟩ := xs_some h
      have e1 := xo_some h0
      obtain ⟨t2, ph3, h0, h⟩ := xb_some h
      refine px_cV2 rfl rfl e1 rfl rfl rfl rfl rfl rfl rfl (r_Link_nameOf h0 :) (fun _ _ q => nomatch q.2) (fun r ph' q => ?_)
      obtain ⟨rfl, q⟩ := q
      cases q
      cases t2 with
      | none =>
        refine px_ifnnN rfl rfl ?_
        refine px_ld rfl rfl rfl (by first | rfl | (cases a6 <;> rfl)) rfl ?_
        refine px_ld rfl rfl rfl rfl rfl ?_
        obtain ⟨p5, h0, h⟩ := xs_some h
        revert h
        subst h0
        intro h
        obtain ⟨fs, h0, h⟩ := xs_some h
        have e1 := xo_some h0
        obtain ⟨t6, ph7, h0, h⟩ := xb_some h
        refine px_cV1 rfl rfl e1 rfl rfl rfl rfl rfl rfl rfl (r_ObjectFile_kindOf h0 :) (fun _ _ q => nomatch q.2) (fun r ph' q => ?_)
        obtain ⟨rfl, q⟩ := q
        cases q
        refine px_ic (k := 3) rfl rfl rfl ?_
        refine px_icne rfl (by decide) rfl (fun hc => ?_) (fun hc => ?_)
        · replace h := (if_neg hc).symm.trans h
          refine px_forget (n := 6) (lv' := [_, _, _, _, _, _, _, _, _]) rfl ?_
          refine px_forget (n := 7) (lv' := [_, _, _, _, _, _, _, _, _]) rfl ?_
          exact (r_Filler_sumFor_108 h :)
        · replace h := (if_pos hc).symm.trans h
          refine px_ld rfl rfl rfl rfl rfl ?_
          obtain ⟨t8, h0, h⟩ := xs_some h
          obtain ⟨fs, e1, e2⟩ := xgR_some h0
          refine px_get rfl e1 e2 rfl ?_
          refine px_ld rfl rfl rfl rfl rfl ?_
          refine px_ld rfl rfl rfl rfl rfl ?_
          obtain ⟨fs, h0, h⟩ := xs_some h
          have e1 := xo_some h0
          obtain ⟨t9, ph10, h0, h⟩ := xb_some h
          refine px_cV2 rfl rfl e1 rfl rfl rfl rfl rfl rfl rfl (r_Link_partOf h0 :) (fun _ _ q => nomatch q.2) (fun r ph' q => ?_)
          obtain ⟨rfl, q⟩ := q
          cases q
          refine px_st (lv' := [.ref a0, px_u, .int a2, .int a3, .long a4, px_u, .ref p5, .int s0, va_rf t9]) rfl rfl (by first | rfl | (cases t9 <;> rfl)) (by first | rfl | (cases t9 <;> rfl)) rfl (by first | rfl | (cases t9 <;> rfl)) rfl ?_
          refine px_ld rfl rfl rfl (by first | rfl | (cases t9 <;> rfl)) rfl ?_
          cases t9 with
          | none =>
            refine px_ifnullN rfl (by decide) rfl ?_
            refine px_forget (n := 6) (lv' := [_, _, _, _, _, _, _, _, _]) rfl ?_
            refine px_forget (n := 7) (lv' := [_, _, _, _, _, _, _, _, _]) rfl ?_
            refine px_forget (n := 8) (lv' := [_, _, _, _, _, _, _, _, _]) rfl ?_
            exact (r_Filler_sumFor_108 h :)
          | some p11 =>
            refine px_ifnullR rfl rfl ?_
            refine px_ld rfl rfl rfl rfl rfl ?_
            obtain ⟨t12, h0, h⟩ := xs_some h
            obtain ⟨fs, e1, e2⟩ := xgI_some h0
            refine px_get rfl e1 e2 rfl ?_
            refine px_ifeq rfl (by decide) rfl (fun hc => ?_) (fun hc => ?_)
            · replace h := (if_pos hc).symm.trans h
              refine px_forget (n := 6) (lv' := [_, _, _, _, _, _, _, _, _]) rfl ?_
              refine px_forget (n := 7) (lv' := [_, _, _, _, _, _, _, _, _]) rfl ?_
              refine px_forget (n := 8) (lv' := [_, _, _, _, _, _, _, _, _]) rfl ?_
              exact (r_Filler_sumFor_108 h :)
            · replace h := (if_neg hc).symm.trans h
              refine px_ld rfl rfl rfl rfl rfl ?_
              obtain ⟨t13, h0, h⟩ := xs_some h
              obtain ⟨fs, e1, e2⟩ := xgR_some h0
              refine px_get rfl e1 e2 rfl ?_
              refine px_ld rfl rfl rfl rfl rfl ?_
              refine px_ld rfl rfl rfl rfl rfl ?_
              refine px_ld rfl rfl rfl rfl rfl ?_
              obtain ⟨fs, h0, h⟩ := xs_some h
              have e1 := xo_some h0
              obtain ⟨t14, ph15, h0, h⟩ := xb_some h
              refine px_cV1 rfl rfl e1 rfl rfl rfl rfl rfl rfl rfl (r_ObjectFile_valueOf h0 :) (fun _ _ q => nomatch q.2) (fun r ph' q => ?_)
              obtain ⟨rfl, q⟩ := q
              cases q
              refine px_ld rfl rfl rfl rfl rfl ?_
              refine px_alu rfl rfl rfl ?_
              obtain ⟨fs, h0, h⟩ := xs_some h
              have e1 := xo_some h0
              obtain ⟨t16, ph17, h0, h⟩ := xb_some h
              refine px_cV2 rfl rfl e1 rfl rfl rfl rfl rfl rfl rfl (r_Pool_addressIn h0 :) (fun _ _ q => nomatch q.2) (fun r ph' q => ?_)
              obtain ⟨rfl, q⟩ := q
              cases q
              cases h
              exact px_lret rfl rfl rfl ⟨rfl, rfl⟩
      | some p4 =>
        refine px_ifnnR rfl (by decide) rfl ?_
        refine px_forget (n := 6) (lv' := [_, _, _, _, _, _, _, _, _]) rfl ?_
        refine px_forget (n := 7) (lv' := [_, _, _, _, _, _, _, _, _]) rfl ?_
        exact (r_Filler_sumFor_108 h :)
def f_Filler_sumFor_27 (F : Nat) (c : px_CT) (a0 : Nat) (a2 : Int32) (a3 : Int32) (a4 : Int64) (a6 : Option Nat) (ph : px_H) : Option (Int64 × px_H) :=
  f_Filler_sumFor_32 F c a0 a2 a3 a4 a6 (nI 1) ph
theorem r_Filler_sumFor_27 {l : Launch} {g : px_G} {d F : Nat} {a0 : Nat} {a2 : Int32} {a3 : Int32} {a4 : Int64} {a6 : Option Nat} {ph : px_H} {r : Int64} {ph' : px_H} (h : f_Filler_sumFor_27 F (px_ct g) a0 a2 a3 a4 a6 ph = some (r, ph')) : PW l g (d + 3) m_Filler_sumFor 27 [.ref a0, px_u, .int a2, .int a3, .long a4, px_u, va_rf a6, px_u, px_u] [] ph (px_qJ r ph') := by
  unfold f_Filler_sumFor_27 at h
  refine px_ic (k := 1) rfl rfl rfl ?_
  refine px_goto rfl (by decide) rfl ?_
  exact (r_Filler_sumFor_32 h :)
def f_Filler_sumFor (F : Nat) (c : px_CT) (a0 : Nat) (a1 : Int32) (a2 : Int32) (a3 : Int32) (a4 : Int64) (ph : px_H) : Option (Int64 × px_H) :=
  (xgR ph 1 0 a0).bind fun t1 =>
  (xo ph 3 t1).bind fun _ =>
  xb (f_Link_object F c t1 a2 ph) fun t2 ph3 =>
  if a1 = (nI 1) then
    f_Filler_sumFor_27 F c a0 a2 a3 a4 t2 ph3
  else
    if a1 = (nI 10) then
      f_Filler_sumFor_27 F c a0 a2 a3 a4 t2 ph3
    else
      if a1 = (nI 11) then
        f_Filler_sumFor_27 F c a0 a2 a3 a4 t2 ph3
      else
        f_Filler_sumFor_32 F c a0 a2 a3 a4 t2 (nI 0) ph3
theorem r_Filler_sumFor {l : Launch} {g : px_G} {d F : Nat} {a0 : Nat} {a1 : Int32} {a2 : Int32} {a3 : Int32} {a4 : Int64} {ph : px_H} {r : Int64} {ph' : px_H} (h : f_Filler_sumFor F (px_ct g) a0 a1 a2 a3 a4 ph = some (r, ph')) : PW l g (d + 3) m_Filler_sumFor 0 [.ref a0, .int a1, .int a2, .int a3, .long a4, px_u, px_u, px_u, px_u] [] ph (px_qJ r ph') := by
  unfold f_Filler_sumFor at h
  refine px_ld rfl rfl rfl rfl rfl ?_
  obtain ⟨t1, h0, h⟩ := xs_some h
  obtain ⟨fs, e1, e2⟩ := xgR_some h0
  refine px_get rfl e1 e2 rfl ?_
  refine px_ld rfl rfl rfl rfl rfl ?_
  obtain ⟨fs, h0, h⟩ := xs_some h
  have e1 := xo_some h0
  obtain ⟨t2, ph3, h0, h⟩ := xb_some h
  refine px_cV1 rfl rfl e1 rfl rfl rfl rfl rfl rfl rfl (r_Link_object h0 :) (fun _ _ q => nomatch q.2) (fun r ph' q => ?_)
  obtain ⟨rfl, q⟩ := q
  cases q
  refine px_st (lv' := [.ref a0, .int a1, .int a2, .int a3, .long a4, px_u, va_rf t2, px_u, px_u]) rfl rfl (by first | rfl | (cases t2 <;> rfl)) (by first | rfl | (cases t2 <;> rfl)) rfl (by first | rfl | (cases t2 <;> rfl)) rfl ?_
  refine px_ld rfl rfl rfl rfl rfl ?_
  refine px_ic (k := 1) rfl rfl rfl ?_
  refine px_iceq rfl (by decide) rfl (fun hc => ?_) (fun hc => ?_)
  · replace h := (if_pos hc).symm.trans h
    refine px_forget (n := 1) (lv' := [_, _, _, _, _, _, _, _, _]) rfl ?_
    exact (r_Filler_sumFor_27 h :)
  · replace h := (if_neg hc).symm.trans h
    refine px_ld rfl rfl rfl rfl rfl ?_
    refine px_ic (k := 10) rfl rfl rfl ?_
    refine px_iceq rfl (by decide) rfl (fun hc => ?_) (fun hc => ?_)
    · replace h := (if_pos hc).symm.trans h
      refine px_forget (n := 1) (lv' := [_, _, _, _, _, _, _, _, _]) rfl ?_
      exact (r_Filler_sumFor_27 h :)
    · replace h := (if_neg hc).symm.trans h
      refine px_ld rfl rfl rfl rfl rfl ?_
      refine px_ic (k := 11) rfl rfl rfl ?_
      refine px_icne rfl (by decide) rfl (fun hc => ?_) (fun hc => ?_)
      · replace h := (if_neg hc).symm.trans h
        refine px_ic (k := 0) rfl rfl rfl ?_
        refine px_forget (n := 1) (lv' := [_, _, _, _, _, _, _, _, _]) rfl ?_
        exact (r_Filler_sumFor_32 h :)
      · replace h := (if_pos hc).symm.trans h
        refine px_forget (n := 1) (lv' := [_, _, _, _, _, _, _, _, _]) rfl ?_
        exact (r_Filler_sumFor_27 h :)
def f_Filler_fillSite_304 (F : Nat) (c : px_CT) (s0 : Int32) (ph : px_H) : Option (Int32 × px_H) :=
  xz s0 ph
theorem r_Filler_fillSite_304 {l : Launch} {g : px_G} {d F : Nat} {s0 : Int32} {ph : px_H} {r : Int32} {ph' : px_H} (h : f_Filler_fillSite_304 F (px_ct g) s0 ph = some (r, ph')) : PW l g (d + 4) m_Filler_fillSite 304 [px_u, px_u, px_u, px_u, px_u, px_u, px_u, px_u, px_u, px_u, px_u, px_u, px_u, px_u, px_u] [.int s0] ph (px_qI r ph') := by
  unfold f_Filler_fillSite_304 at h
  obtain ⟨e0, e1, e2⟩ := xz_some h
  subst e1 e2
  exact px_iret rfl (Or.inr ⟨rfl, e0⟩) rfl ⟨rfl, rfl⟩
def f_Filler_fillSite_299 (F : Nat) (c : px_CT) (ph : px_H) : Option (Int32 × px_H) :=
  f_Filler_fillSite_304 F c (nI 1) ph
theorem r_Filler_fillSite_299 {l : Launch} {g : px_G} {d F : Nat} {ph : px_H} {r : Int32} {ph' : px_H} (h : f_Filler_fillSite_299 F (px_ct g) ph = some (r, ph')) : PW l g (d + 4) m_Filler_fillSite 299 [px_u, px_u, px_u, px_u, px_u, px_u, px_u, px_u, px_u, px_u, px_u, px_u, px_u, px_u, px_u] [] ph (px_qI r ph') := by
  unfold f_Filler_fillSite_299 at h
  refine px_ic (k := 1) rfl rfl rfl ?_
  refine px_goto rfl (by decide) rfl ?_
  exact (r_Filler_fillSite_304 h :)
def f_Filler_fillSite_285 (F : Nat) (c : px_CT) (a6 : Int32) (s0 : Int32) (ph : px_H) : Option (Int32 × px_H) :=
  if s0 = 0 then
    if a6 = (nI 8) then
      f_Filler_fillSite_299 F c ph
    else
      f_Filler_fillSite_304 F c (nI 0) ph
  else
    f_Filler_fillSite_299 F c ph
theorem r_Filler_fillSite_285 {l : Launch} {g : px_G} {d F : Nat} {a6 : Int32} {s0 : Int32} {ph : px_H} {r : Int32} {ph' : px_H} (h : f_Filler_fillSite_285 F (px_ct g) a6 s0 ph = some (r, ph')) : PW l g (d + 4) m_Filler_fillSite 285 [px_u, px_u, px_u, px_u, px_u, px_u, .int a6, px_u, px_u, px_u, px_u, px_u, px_u, px_u, px_u] [.int s0] ph (px_qI r ph') := by
  unfold f_Filler_fillSite_285 at h
  refine px_st (lv' := [_, _, _, _, _, _, _, _, _, _, _, _, _, _, _]) rfl rfl rfl rfl rfl rfl rfl ?_
  refine px_ld rfl rfl rfl rfl rfl ?_
  refine px_ifne rfl (by decide) rfl (fun hc => ?_) (fun hc => ?_)
  · replace h := (if_neg hc).symm.trans h
    refine px_forget (n := 6) (lv' := [_, _, _, _, _, _, _, _, _, _, _, _, _, _, _]) rfl ?_
    refine px_forget (n := 14) (lv' := [_, _, _, _, _, _, _, _, _, _, _, _, _, _, _]) rfl ?_
    exact (r_Filler_fillSite_299 h :)
  · replace h := (if_pos hc).symm.trans h
    refine px_ld rfl rfl rfl rfl rfl ?_
    refine px_ic (k := 8) rfl rfl rfl ?_
    refine px_icne rfl (by decide) rfl (fun hc => ?_) (fun hc => ?_)
    · replace h := (if_neg hc).symm.trans h
      refine px_ic (k := 0) rfl rfl rfl ?_
      refine px_forget (n := 6) (lv' := [_, _, _, _, _, _, _, _, _, _, _, _, _, _, _]) rfl ?_
      refine px_forget (n := 14) (lv' := [_, _, _, _, _, _, _, _, _, _, _, _, _, _, _]) rfl ?_
      exact (r_Filler_fillSite_304 h :)
    · replace h := (if_pos hc).symm.trans h
      refine px_forget (n := 6) (lv' := [_, _, _, _, _, _, _, _, _, _, _, _, _, _, _]) rfl ?_
      refine px_forget (n := 14) (lv' := [_, _, _, _, _, _, _, _, _, _, _, _, _, _, _]) rfl ?_
      exact (r_Filler_fillSite_299 h :)
def f_Filler_fillSite_226 (F : Nat) (c : px_CT) (a0 : Nat) (a3 : Option Nat) (a5 : Int32) (a6 : Int32) (a7 : Int32) (a12 : Int64) (ph : px_H) : Option (Int32 × px_H) :=
  (xgR ph 1 4 a0).bind fun t1 =>
  (xo ph 1 a0).bind fun _ =>
  xb (f_Filler_spotOf F c a0 a3 ph) fun t2 ph3 =>
  (xo ph3 10 t1).bind fun _ =>
  xb (f_Row_set F c t1 (t2 + a7) a6 a12 ph3) fun _ ph4 =>
  if a5 = (nI 10) then
    if ((a12.toUInt64 >>> ((nI 32).toInt64.toUInt64 &&& Int64.toUInt64 63)).toInt64) = (lN 0) then
      f_Filler_fillSite_285 F c a6 (nI 1) ph4
    else
      f_Filler_fillSite_285 F c a6 (nI 0) ph4
  else
    if a12 = a12.toInt32.toInt64 then
      f_Filler_fillSite_285 F c a6 (nI 1) ph4
    else
      f_Filler_fillSite_285 F c a6 (nI 0) ph4
theorem r_Filler_fillSite_226 {l : Launch} {g : px_G} {d F : Nat} {a0 : Nat} {a3 : Option Nat} {a5 : Int32} {a6 : Int32} {a7 : Int32} {a12 : Int64} {ph : px_H} {r : Int32} {ph' : px_H} (h : f_Filler_fillSite_226 F (px_ct g) a0 a3 a5 a6 a7 a12 ph = some (r, ph')) : PW l g (d + 4) m_Filler_fillSite 226 [.ref a0, px_u, px_u, va_rf a3, px_u, .int a5, .int a6, .int a7, px_u, px_u, px_u, px_u, .long a12, px_u, px_u] [] ph (px_qI r ph') := by
  unfold f_Filler_fillSite_226 at h
  refine px_ld rfl rfl rfl rfl rfl ?_
  obtain ⟨t1, h0, h⟩ := xs_some h
  obtain ⟨fs, e1, e2⟩ := xgR_some h0
  refine px_get rfl e1 e2 rfl ?_
  refine px_ld rfl rfl rfl rfl rfl ?_
  refine px_ld rfl rfl rfl (by first | rfl | (cases a3 <;> rfl)) rfl ?_
  obtain ⟨fs, h0, h⟩ := xs_some h
  have e1 := xo_some h0
  obtain ⟨t2, ph3, h0, h⟩ := xb_some h
  refine px_cV1 (lv0 := [.ref a0, va_rf a3, px_u]) rfl rfl e1 rfl rfl rfl (by first | rfl | (cases a3 <;> rfl)) rfl (by first | rfl | (cases a3 <;> rfl)) rfl (r_Filler_spotOf h0 :) (fun _ _ q => nomatch q.2) (fun r ph' q => ?_)
  obtain ⟨rfl, q⟩ := q
  cases q
  refine px_ld rfl rfl rfl rfl rfl ?_
  refine px_alu rfl rfl rfl ?_
  refine px_ld rfl rfl rfl rfl rfl ?_
  refine px_ld rfl rfl rfl rfl rfl ?_
  obtain ⟨fs, h0, h⟩ := xs_some h
  have e1 := xo_some h0
  obtain ⟨u0, ph4, h0, h⟩ := xb_some h
  refine px_cV3 rfl rfl e1 rfl rfl rfl rfl rfl rfl rfl (r_Row_set h0 :) (fun _ _ q => nomatch q.2) (fun r ph' q => ?_)
  obtain ⟨rfl, q⟩ := q
  cases q
  refine px_ld rfl rfl rfl rfl rfl ?_
  refine px_ic (k := 10) rfl rfl rfl ?_
  refine px_icne rfl (by decide) rfl (fun hc => ?_) (fun hc => ?_)
  · replace h := (if_neg hc).symm.trans h
    refine px_ld rfl rfl rfl rfl rfl ?_
    refine px_ld rfl rfl rfl rfl rfl ?_
    refine px_alu rfl rfl rfl ?_
    refine px_alu rfl rfl rfl ?_
    refine px_alu rfl rfl rfl ?_
    refine px_ifne rfl (by decide) rfl (fun hc => ?_) (fun hc => ?_)
    · replace h := (if_neg (fun q => hc ((lg_cmp_eq _ _).mpr q))).symm.trans h
      refine px_ic (k := 0) rfl rfl rfl ?_
      refine px_forget (n := 0) (lv' := [_, _, _, _, _, _, _, _, _, _, _, _, _, _, _]) rfl ?_
      refine px_forget (n := 3) (lv' := [_, _, _, _, _, _, _, _, _, _, _, _, _, _, _]) rfl ?_
      refine px_forget (n := 5) (lv' := [_, _, _, _, _, _, _, _, _, _, _, _, _, _, _]) rfl ?_
      refine px_forget (n := 7) (lv' := [_, _, _, _, _, _, _, _, _, _, _, _, _, _, _]) rfl ?_
      refine px_forget (n := 12) (lv' := [_, _, _, _, _, _, _, _, _, _, _, _, _, _, _]) rfl ?_
      exact (r_Filler_fillSite_285 h :)
    · replace h := (if_pos ((lg_cmp_eq _ _).mp hc)).symm.trans h
      refine px_ic (k := 1) rfl rfl rfl ?_
      refine px_goto rfl (by decide) rfl ?_
      refine px_forget (n := 0) (lv' := [_, _, _, _, _, _, _, _, _, _, _, _, _, _, _]) rfl ?_
      refine px_forget (n := 3) (lv' := [_, _, _, _, _, _, _, _, _, _, _, _, _, _, _]) rfl ?_
      refine px_forget (n := 5) (lv' := [_, _, _, _, _, _, _, _, _, _, _, _, _, _, _]) rfl ?_
      refine px_forget (n := 7) (lv' := [_, _, _, _, _, _, _, _, _, _, _, _, _, _, _]) rfl ?_
      refine px_forget (n := 12) (lv' := [_, _, _, _, _, _, _, _, _, _, _, _, _, _, _]) rfl ?_
      exact (r_Filler_fillSite_285 h :)
  · replace h := (if_pos hc).symm.trans h
    refine px_ld rfl rfl rfl rfl rfl ?_
    refine px_ic (k := 32) rfl rfl rfl ?_
    refine px_alu rfl rfl rfl ?_
    refine px_alu rfl rfl rfl ?_
    refine px_alu rfl rfl rfl ?_
    refine px_ifne rfl (by decide) rfl (fun hc => ?_) (fun hc => ?_)
    · replace h := (if_neg (fun q => hc ((lg_cmp_eq _ _).mpr q))).symm.trans h
      refine px_ic (k := 0) rfl rfl rfl ?_
      refine px_goto rfl (by decide) rfl ?_
      refine px_forget (n := 0) (lv' := [_, _, _, _, _, _, _, _, _, _, _, _, _, _, _]) rfl ?_
      refine px_forget (n := 3) (lv' := [_, _, _, _, _, _, _, _, _, _, _, _, _, _, _]) rfl ?_
      refine px_forget (n := 5) (lv' := [_, _, _, _, _, _, _, _, _, _, _, _, _, _, _]) rfl ?_
      refine px_forget (n := 7) (lv' := [_, _, _, _, _, _, _, _, _, _, _, _, _, _, _]) rfl ?_
      refine px_forget (n := 12) (lv' := [_, _, _, _, _, _, _, _, _, _, _, _, _, _, _]) rfl ?_
      exact (r_Filler_fillSite_285 h :)
    · replace h := (if_pos ((lg_cmp_eq _ _).mp hc)).symm.trans h
      refine px_ic (k := 1) rfl rfl rfl ?_
      refine px_goto rfl (by decide) rfl ?_
      refine px_forget (n := 0) (lv' := [_, _, _, _, _, _, _, _, _, _, _, _, _, _, _]) rfl ?_
      refine px_forget (n := 3) (lv' := [_, _, _, _, _, _, _, _, _, _, _, _, _, _, _]) rfl ?_
      refine px_forget (n := 5) (lv' := [_, _, _, _, _, _, _, _, _, _, _, _, _, _, _]) rfl ?_
      refine px_forget (n := 7) (lv' := [_, _, _, _, _, _, _, _, _, _, _, _, _, _, _]) rfl ?_
      refine px_forget (n := 12) (lv' := [_, _, _, _, _, _, _, _, _, _, _, _, _, _, _]) rfl ?_
      exact (r_Filler_fillSite_285 h :)
def f_Filler_fillSite_213 (F : Nat) (c : px_CT) (a0 : Nat) (a3 : Option Nat) (a5 : Int32) (a6 : Int32) (a7 : Int32) (a12 : Int64) (ph : px_H) : Option (Int32 × px_H) :=
  (a3).bind fun p1 =>
  (xgJ ph 8 11 p1).bind fun t2 =>
  f_Filler_fillSite_226 F c a0 (some p1) a5 a6 a7 (a12 - (t2 + a7.toInt64)) ph
theorem r_Filler_fillSite_213 {l : Launch} {g : px_G} {d F : Nat} {a0 : Nat} {a3 : Option Nat} {a5 : Int32} {a6 : Int32} {a7 : Int32} {a12 : Int64} {ph : px_H} {r : Int32} {ph' : px_H} (h : f_Filler_fillSite_213 F (px_ct g) a0 a3 a5 a6 a7 a12 ph = some (r, ph')) : PW l g (d + 4) m_Filler_fillSite 213 [.ref a0, px_u, px_u, va_rf a3, px_u, .int a5, .int a6, .int a7, px_u, px_u, px_u, px_u, .long a12, px_u, px_u] [] ph (px_qI r ph') := by
  unfold f_Filler_fillSite_213 at h
  refine px_ld rfl rfl rfl rfl rfl ?_
  refine px_ld rfl rfl rfl (by first | rfl | (cases a3 <;> rfl)) rfl ?_
  obtain ⟨p1, h0, h⟩ := xs_some h
  revert h
  subst h0
  intro h
  obtain ⟨t2, h0, h⟩ := xs_some h
  obtain ⟨fs, e1, e2⟩ := xgJ_some h0
  refine px_get rfl e1 e2 rfl ?_
  refine px_ld rfl rfl rfl rfl rfl ?_
  refine px_alu rfl rfl rfl ?_
  refine px_alu rfl rfl rfl ?_
  refine px_alu rfl rfl rfl ?_
  refine px_st (lv' := [_, _, _, _, _, _, _, _, _, _, _, _, _, _, _]) rfl rfl rfl rfl rfl rfl rfl ?_
  exact (r_Filler_fillSite_226 h :)
def f_Filler_fillSite_181 (F : Nat) (c : px_CT) (a0 : Nat) (a3 : Option Nat) (a5 : Int32) (a6 : Int32) (a7 : Int32) (a12 : Int64) (ph : px_H) : Option (Int32 × px_H) :=
  (xgR ph 1 1 a0).bind fun t1 =>
  (xgJ ph 2 17 t1).bind fun t2 =>
  f_Filler_fillSite_226 F c a0 a3 a5 a6 a7 (a12 - t2) ph
theorem r_Filler_fillSite_181 {l : Launch} {g : px_G} {d F : Nat} {a0 : Nat} {a3 : Option Nat} {a5 : Int32} {a6 : Int32} {a7 : Int32} {a12 : Int64} {ph : px_H} {r : Int32} {ph' : px_H} (h : f_Filler_fillSite_181 F (px_ct g) a0 a3 a5 a6 a7 a12 ph = some (r, ph')) : PW l g (d + 4) m_Filler_fillSite 181 [.ref a0, px_u, px_u, va_rf a3, px_u, .int a5, .int a6, .int a7, px_u, px_u, px_u, px_u, .long a12, px_u, px_u] [] ph (px_qI r ph') := by
  unfold f_Filler_fillSite_181 at h
  refine px_ld rfl rfl rfl rfl rfl ?_
  refine px_ld rfl rfl rfl rfl rfl ?_
  obtain ⟨t1, h0, h⟩ := xs_some h
  obtain ⟨fs, e1, e2⟩ := xgR_some h0
  refine px_get rfl e1 e2 rfl ?_
  obtain ⟨t2, h0, h⟩ := xs_some h
  obtain ⟨fs, e1, e2⟩ := xgJ_some h0
  refine px_get rfl e1 e2 rfl ?_
  refine px_alu rfl rfl rfl ?_
  refine px_st (lv' := [_, _, _, _, _, _, _, _, _, _, _, _, _, _, _]) rfl rfl rfl rfl rfl rfl rfl ?_
  refine px_goto rfl (by decide) rfl ?_
  exact (r_Filler_fillSite_226 h :)
def f_Filler_fillSite_165 (F : Nat) (c : px_CT) (a0 : Nat) (a3 : Option Nat) (a5 : Int32) (a6 : Int32) (a7 : Int32) (a11 : Int32) (s0 : Int64) (ph : px_H) : Option (Int32 × px_H) :=
  if a5 = (nI 18) then
    f_Filler_fillSite_181 F c a0 a3 a5 a6 a7 s0 ph
  else
    if a5 = (nI 23) then
      f_Filler_fillSite_181 F c a0 a3 a5 a6 a7 s0 ph
    else
      if a5 = (nI 2) then
        f_Filler_fillSite_213 F c a0 a3 a5 a6 a7 s0 ph
      else
        if a5 = (nI 4) then
          f_Filler_fillSite_213 F c a0 a3 a5 a6 a7 s0 ph
        else
          if a11 = 0 then
            f_Filler_fillSite_226 F c a0 a3 a5 a6 a7 s0 ph
          else
            f_Filler_fillSite_213 F c a0 a3 a5 a6 a7 s0 ph
theorem r_Filler_fillSite_165 {l : Launch} {g : px_G} {d F : Nat} {a0 : Nat} {a3 : Option Nat} {a5 : Int32} {a6 : Int32} {a7 : Int32} {a11 : Int32} {s0 : Int64} {ph : px_H} {r : Int32} {ph' : px_H} (h : f_Filler_fillSite_165 F (px_ct g) a0 a3 a5 a6 a7 a11 s0 ph = some (r, ph')) : PW l g (d + 4) m_Filler_fillSite 165 [.ref a0, px_u, px_u, va_rf a3, px_u, .int a5, .int a6, .int a7, px_u, px_u, px_u, .int a11, px_u, px_u, px_u] [.long s0] ph (px_qI r ph') := by
  unfold f_Filler_fillSite_165 at h
  refine px_st (lv' := [_, _, _, _, _, _, _, _, _, _, _, _, _, _, _]) rfl rfl rfl rfl rfl rfl rfl ?_
  refine px_ld rfl rfl rfl rfl rfl ?_
  refine px_ic (k := 18) rfl rfl rfl ?_
  refine px_iceq rfl (by decide) rfl (fun hc => ?_) (fun hc => ?_)
  · replace h := (if_pos hc).symm.trans h
    refine px_forget (n := 11) (lv' := [_, _, _, _, _, _, _, _, _, _, _, _, _, _, _]) rfl ?_
    exact (r_Filler_fillSite_181 h :)
  · replace h := (if_neg hc).symm.trans h
    refine px_ld rfl rfl rfl rfl rfl ?_
    refine px_ic (k := 23) rfl rfl rfl ?_
    refine px_icne rfl (by decide) rfl (fun hc => ?_) (fun hc => ?_)
    · replace h := (if_neg hc).symm.trans h
      refine px_ld rfl rfl rfl rfl rfl ?_
      refine px_ic (k := 2) rfl rfl rfl ?_
      refine px_iceq rfl (by decide) rfl (fun hc => ?_) (fun hc => ?_)
      · replace h := (if_pos hc).symm.trans h
        refine px_forget (n := 11) (lv' := [_, _, _, _, _, _, _, _, _, _, _, _, _, _, _]) rfl ?_
        exact (r_Filler_fillSite_213 h :)
      · replace h := (if_neg hc).symm.trans h
        refine px_ld rfl rfl rfl rfl rfl ?_
        refine px_ic (k := 4) rfl rfl rfl ?_
        refine px_iceq rfl (by decide) rfl (fun hc => ?_) (fun hc => ?_)
        · replace h := (if_pos hc).symm.trans h
          refine px_forget (n := 11) (lv' := [_, _, _, _, _, _, _, _, _, _, _, _, _, _, _]) rfl ?_
          exact (r_Filler_fillSite_213 h :)
        · replace h := (if_neg hc).symm.trans h
          refine px_ld rfl rfl rfl rfl rfl ?_
          refine px_ifeq rfl (by decide) rfl (fun hc => ?_) (fun hc => ?_)
          · replace h := (if_pos hc).symm.trans h
            refine px_forget (n := 11) (lv' := [_, _, _, _, _, _, _, _, _, _, _, _, _, _, _]) rfl ?_
            exact (r_Filler_fillSite_226 h :)
          · replace h := (if_neg hc).symm.trans h
            refine px_forget (n := 11) (lv' := [_, _, _, _, _, _, _, _, _, _, _, _, _, _, _]) rfl ?_
            exact (r_Filler_fillSite_213 h :)
    · replace h := (if_pos hc).symm.trans h
      refine px_forget (n := 11) (lv' := [_, _, _, _, _, _, _, _, _, _, _, _, _, _, _]) rfl ?_
      exact (r_Filler_fillSite_181 h :)
def f_Filler_fillSite_145 (F : Nat) (c : px_CT) (a0 : Nat) (a3 : Option Nat) (a5 : Int32) (a6 : Int32) (a7 : Int32) (a9 : Int64) (a11 : Int32) (s0 : Nat) (s1 : Int32) (s2 : Int32) (s3 : Int32) (ph : px_H) : Option (Int32 × px_H) :=
  (xo ph 1 s0).bind fun _ =>
  xb (f_Filler_slotAddress F c s0 s1 s2 s3 ph) fun t1 ph2 =>
  f_Filler_fillSite_165 F c a0 a3 a5 a6 a7 a11 (t1 + a9) ph2
theorem r_Filler_fillSite_145 {l : Launch} {g : px_G} {d F : Nat} {a0 : Nat} {a3 : Option Nat} {a5 : Int32} {a6 : Int32} {a7 : Int32} {a9 : Int64} {a11 : Int32} {s0 : Nat} {s1 : Int32} {s2 : Int32} {s3 : Int32} {ph : px_H} {r : Int32} {ph' : px_H} (h : f_Filler_fillSite_145 F (px_ct g) a0 a3 a5 a6 a7 a9 a11 s0 s1 s2 s3 ph = some (r, ph')) : PW l g (d + 4) m_Filler_fillSite 145 [.ref a0, px_u, px_u, va_rf a3, px_u, .int a5, .int a6, .int a7, px_u, .long a9, px_u, .int a11, px_u, px_u, px_u] [.int s3, .int s2, .int s1, .ref s0] ph (px_qI r ph') := by
  unfold f_Filler_fillSite_145 at h
  obtain ⟨fs, h0, h⟩ := xs_some h
  have e1 := xo_some h0
  obtain ⟨t1, ph2, h0, h⟩ := xb_some h
  refine px_cV3 rfl rfl e1 rfl rfl rfl rfl rfl rfl rfl (r_Filler_slotAddress h0 :) (fun _ _ q => nomatch q.2) (fun r ph' q => ?_)
  obtain ⟨rfl, q⟩ := q
  cases q
  refine px_ld rfl rfl rfl rfl rfl ?_
  refine px_alu rfl rfl rfl ?_
  refine px_goto rfl (by decide) rfl ?_
  refine px_forget (n := 9) (lv' := [_, _, _, _, _, _, _, _, _, _, _, _, _, _, _]) rfl ?_
  exact (r_Filler_fillSite_165 h :)
def f_Filler_fillSite_122 (F : Nat) (c : px_CT) (a0 : Nat) (a1 : Int32) (a3 : Option Nat) (a5 : Int32) (a6 : Int32) (a7 : Int32) (a8 : Int32) (a9 : Int64) (s0 : Int32) (ph : px_H) : Option (Int32 × px_H) :=
  if s0 = 0 then
    (xo ph 1 a0).bind fun _ =>
    xb (f_Filler_sumFor F c a0 a5 a1 a8 a9 ph) fun t1 ph2 =>
    f_Filler_fillSite_165 F c a0 a3 a5 a6 a7 s0 t1 ph2
  else
    if a5 = (nI 22) then
      f_Filler_fillSite_145 F c a0 a3 a5 a6 a7 a9 s0 a0 a1 a8 (nI 1) ph
    else
      f_Filler_fillSite_145 F c a0 a3 a5 a6 a7 a9 s0 a0 a1 a8 (nI 0) ph
theorem r_Filler_fillSite_122 {l : Launch} {g : px_G} {d F : Nat} {a0 : Nat} {a1 : Int32} {a3 : Option Nat} {a5 : Int32} {a6 : Int32} {a7 : Int32} {a8 : Int32} {a9 : Int64} {s0 : Int32} {ph : px_H} {r : Int32} {ph' : px_H} (h : f_Filler_fillSite_122 F (px_ct g) a0 a1 a3 a5 a6 a7 a8 a9 s0 ph = some (r, ph')) : PW l g (d + 4) m_Filler_fillSite 122 [.ref a0, .int a1, px_u, va_rf a3, px_u, .int a5, .int a6, .int a7, .int a8, .long a9, px_u, px_u, px_u, px_u, px_u] [.int s0] ph (px_qI r ph') := by
  unfold f_Filler_fillSite_122 at h
  refine px_st (lv' := [_, _, _, _, _, _, _, _, _, _, _, _, _, _, _]) rfl rfl rfl rfl rfl rfl rfl ?_
  refine px_ld rfl rfl rfl rfl rfl ?_
  refine px_ifeq rfl (by decide) rfl (fun hc => ?_) (fun hc => ?_)
  · replace h := (if_pos hc).symm.trans h
    refine px_ld rfl rfl rfl rfl rfl ?_
    refine px_ld rfl rfl rfl rfl rfl ?_
    refine px_ld rfl rfl rfl rfl rfl ?_
    refine px_ld rfl rfl rfl rfl rfl ?_
    refine px_ld rfl rfl rfl rfl rfl ?_
    obtain ⟨fs, h0, h⟩ := xs_some h
    have e1 := xo_some h0
    obtain ⟨t1, ph2, h0, h⟩ := xb_some h
    refine px_cV4 rfl rfl e1 rfl rfl rfl rfl rfl rfl rfl (r_Filler_sumFor h0 :) (fun _ _ q => nomatch q.2) (fun r ph' q => ?_)
    obtain ⟨rfl, q⟩ := q
    cases q
    refine px_forget (n := 1) (lv' := [_, _, _, _, _, _, _, _, _, _, _, _, _, _, _]) rfl ?_
    refine px_forget (n := 8) (lv' := [_, _, _, _, _, _, _, _, _, _, _, _, _, _, _]) rfl ?_
    refine px_forget (n := 9) (lv' := [_, _, _, _, _, _, _, _, _, _, _, _, _, _, _]) rfl ?_
    exact (r_Filler_fillSite_165 h :)
  · replace h := (if_neg hc).symm.trans h
    refine px_ld rfl rfl rfl rfl rfl ?_
    refine px_ld rfl rfl rfl rfl rfl ?_
    refine px_ld rfl rfl rfl rfl rfl ?_
    refine px_ld rfl rfl rfl rfl rfl ?_
    refine px_ic (k := 22) rfl rfl rfl ?_
    refine px_icne rfl (by decide) rfl (fun hc => ?_) (fun hc => ?_)
    · replace h := (if_neg hc).symm.trans h
      refine px_ic (k := 0) rfl rfl rfl ?_
      refine px_forget (n := 1) (lv' := [_, _, _, _, _, _, _, _, _, _, _, _, _, _, _]) rfl ?_
      refine px_forget (n := 8) (lv' := [_, _, _, _, _, _, _, _, _, _, _, _, _, _, _]) rfl ?_
      exact (r_Filler_fillSite_145 h :)
    · replace h := (if_pos hc).symm.trans h
      refine px_ic (k := 1) rfl rfl rfl ?_
      refine px_goto rfl (by decide) rfl ?_
      refine px_forget (n := 1) (lv' := [_, _, _, _, _, _, _, _, _, _, _, _, _, _, _]) rfl ?_
      refine px_forget (n := 8) (lv' := [_, _, _, _, _, _, _, _, _, _, _, _, _, _, _]) rfl ?_
      exact (r_Filler_fillSite_145 h :)
def f_Filler_fillSite_117 (F : Nat) (c : px_CT) (a0 : Nat) (a1 : Int32) (a3 : Option Nat) (a5 : Int32) (a6 : Int32) (a7 : Int32) (a8 : Int32) (a9 : Int64) (ph : px_H) : Option (Int32 × px_H) :=
  f_Filler_fillSite_122 F c a0 a1 a3 a5 a6 a7 a8 a9 (nI 1) ph
theorem r_Filler_fillSite_117 {l : Launch} {g : px_G} {d F : Nat} {a0 : Nat} {a1 : Int32} {a3 : Option Nat} {a5 : Int32} {a6 : Int32} {a7 : Int32} {a8 : Int32} {a9 : Int64} {ph : px_H} {r : Int32} {ph' : px_H} (h : f_Filler_fillSite_117 F (px_ct g) a0 a1 a3 a5 a6 a7 a8 a9 ph = some (r, ph')) : PW l g (d + 4) m_Filler_fillSite 117 [.ref a0, .int a1, px_u, va_rf a3, px_u, .int a5, .int a6, .int a7, .int a8, .long a9, px_u, px_u, px_u, px_u, px_u] [] ph (px_qI r ph') := by
  unfold f_Filler_fillSite_117 at h
  refine px_ic (k := 1) rfl rfl rfl ?_
  refine px_goto rfl (by decide) rfl ?_
  exact (r_Filler_fillSite_122 h :)
def f_Filler_fillSite (F : Nat) (c : px_CT) (a0 : Nat) (a1 : Int32) (a2 : Int32) (a3 : Option Nat) (ph : px_H) : Option (Int32 × px_H) :=
  (xgR ph 1 0 a0).bind fun t1 =>
  (xo ph 3 t1).bind fun _ =>
  xb (f_Link_object F c t1 a1 ph) fun t2 ph3 =>
  (t2).bind fun p4 =>
  (xo ph3 7 p4).bind fun _ =>
  xb (f_ObjectFile_num F c p4 (a2 + (nI 8)) (nI 4) ph3) fun t5 ph6 =>
  xb (f_H_siteWidth F c t5.toInt32.toInt64 ph6) fun t7 ph8 =>
  (xo ph8 7 p4).bind fun _ =>
  xb (f_ObjectFile_num F c p4 a2 (nI 8) ph8) fun t9 ph10 =>
  if 0 < t7 then
    (xgR ph10 1 0 a0).bind fun t11 =>
    (xo ph10 3 t11).bind fun _ =>
    xb (f_Link_isShort F c t11 a1 a2 a3 ph10) fun t12 ph13 =>
    if t12 = 0 then
      (xo ph13 7 p4).bind fun _ =>
      xb (f_ObjectFile_num F c p4 (a2 + (nI 12)) (nI 4) ph13) fun t14 ph15 =>
      (xo ph15 7 p4).bind fun _ =>
      xb (f_ObjectFile_num F c p4 (a2 + (nI 16)) (nI 8) ph15) fun t16 ph17 =>
      if t5.toInt32 = (nI 9) then
        f_Filler_fillSite_117 F c a0 a1 a3 t5.toInt32 t7 t9.toInt32 t14.toInt32 t16 ph17
      else
        if t5.toInt32 = (nI 22) then
          f_Filler_fillSite_117 F c a0 a1 a3 t5.toInt32 t7 t9.toInt32 t14.toInt32 t16 ph17
        else
          if t5.toInt32 ≤ (nI 23) then
            f_Filler_fillSite_122 F c a0 a1 a3 t5.toInt32 t7 t9.toInt32 t14.toInt32 t16 (nI 0) ph17
          else
            f_Filler_fillSite_117 F c a0 a1 a3 t5.toInt32 t7 t9.toInt32 t14.toInt32 t16 ph17
    else
      (xo ph13 1 a0).bind fun _ =>
      xb (f_Filler_fillShort F c a0 a1 a2 a3 ph13) fun t18 ph19 =>
      xz t18 ph19
  else
    some (nI 1, ph10)
theorem r_Filler_fillSite {l : Launch} {g : px_G} {d F : Nat} {a0 : Nat} {a1 : Int32} {a2 : Int32} {a3 : Option Nat} {ph : px_H} {r : Int32} {ph' : px_H} (h : f_Filler_fillSite F (px_ct g) a0 a1 a2 a3 ph = some (r, ph')) : PW l g (d + 4) m_Filler_fillSite 0 [.ref a0, .int a1, .int a2, va_rf a3, px_u, px_u, px_u, px_u, px_u, px_u, px_u, px_u, px_u, px_u, px_u] [] ph (px_qI r ph') := by
  unfold f_Filler_fillSite at h
  refine px_ld rfl rfl rfl rfl rfl ?_
  obtain ⟨t1, h0, h⟩ := xs_some h
  obtain ⟨fs, e1, e2⟩ := xgR_some h0
  refine px_get rfl e1 e2 rfl ?_
  refine px_ld rfl rfl rfl rfl rfl ?_
  obtain ⟨fs, h0, h⟩ := xs_some h
  have e1 := xo_some h0
  obtain ⟨t2, ph3, h0, h⟩ := xb_some h
  refine px_cV1 rfl rfl e1 rfl rfl rfl rfl rfl rfl rfl (r_Link_object h0 :) (fun _ _ q => nomatch q.2) (fun r ph' q => ?_)
  obtain ⟨rfl, q⟩ := q
  cases q
  refine px_st (lv' := [.ref a0, .int a1, .int a2, va_rf a3, va_rf t2, px_u, px_u, px_u, px_u, px_u, px_u, px_u, px_u, px_u, px_u]) rfl rfl (by first | rfl | (cases t2 <;> rfl)) (by first | rfl | (cases t2 <;> rfl)) (by first | rfl | (cases a3 <;> rfl)) (by first | rfl | (cases t2 <;> rfl)) rfl ?_
  refine px_ld rfl rfl rfl (by first | rfl | (cases t2 <;> rfl)) rfl ?_
  refine px_ld rfl rfl rfl rfl rfl ?_
  refine px_ic (k := 8) rfl rfl rfl ?_
  refine px_alu rfl rfl rfl ?_
  refine px_ic (k := 4) rfl rfl rfl ?_
  obtain ⟨p4, h0, h⟩ := xs_some h
  revert h
  subst h0
  intro h
  obtain ⟨fs, h0, h⟩ := xs_some h
  have e1 := xo_some h0
  obtain ⟨t5, ph6, h0, h⟩ := xb_some h
  refine px_cV2 rfl rfl e1 rfl rfl rfl rfl rfl rfl rfl (r_ObjectFile_num h0 :) (fun _ _ q => nomatch q.2) (fun r ph' q => ?_)
  obtain ⟨rfl, q⟩ := q
  cases q
  refine px_alu rfl rfl rfl ?_
  refine px_st (lv' := [_, _, _, _, _, _, _, _, _, _, _, _, _, _, _]) rfl rfl rfl rfl rfl rfl rfl ?_
  refine px_ld rfl rfl rfl rfl rfl ?_
  refine px_alu rfl rfl rfl ?_
  obtain ⟨t7, ph8, h0, h⟩ := xb_some h
  refine px_cS1 rfl rfl rfl rfl rfl rfl rfl (r_H_siteWidth h0 :) (fun _ _ q => nomatch q.2) (fun r ph' q => ?_)
  obtain ⟨rfl, q⟩ := q
  cases q
  refine px_st (lv' := [_, _, _, _, _, _, _, _, _, _, _, _, _, _, _]) rfl rfl rfl rfl rfl rfl rfl ?_
  refine px_ld rfl rfl rfl rfl rfl ?_
  refine px_ld rfl rfl rfl rfl rfl ?_
  refine px_ic (k := 8) rfl rfl rfl ?_
  obtain ⟨fs, h0, h⟩ := xs_some h
  have e1 := xo_some h0
  obtain ⟨t9, ph10, h0, h⟩ := xb_some h
  refine px_cV2 rfl rfl e1 rfl rfl rfl rfl rfl rfl rfl (r_ObjectFile_num h0 :) (fun _ _ q => nomatch q.2) (fun r ph' q => ?_)
  obtain ⟨rfl, q⟩ := q
  cases q
  refine px_alu rfl rfl rfl ?_
  refine px_st (lv' := [_, _, _, _, _, _, _, _, _, _, _, _, _, _, _]) rfl rfl rfl rfl rfl rfl rfl ?_
  refine px_ld rfl rfl rfl rfl rfl ?_
  refine px_ifgt rfl (by decide) rfl (fun hc => ?_) (fun hc => ?_)
  · replace h := (if_pos hc).symm.trans h
    refine px_ld rfl rfl rfl rfl rfl ?_
    obtain ⟨t11, h0, h⟩ := xs_some h
    obtain ⟨fs, e1, e2⟩ := xgR_some h0
    refine px_get rfl e1 e2 rfl ?_
    refine px_ld rfl rfl rfl rfl rfl ?_
    refine px_ld rfl rfl rfl rfl rfl ?_
    refine px_ld rfl rfl rfl (by first | rfl | (cases a3 <;> rfl)) rfl ?_
    obtain ⟨fs, h0, h⟩ := xs_some h
    have e1 := xo_some h0
    obtain ⟨t12, ph13, h0, h⟩ := xb_some h
    refine px_cV3 (lv0 := [.ref t11, .int a1, .int a2, va_rf a3, px_u, px_u, px_u, px_u, px_u, px_u, px_u, px_u, px_u]) rfl rfl e1 rfl rfl rfl (by first | rfl | (cases a3 <;> rfl)) rfl (by first | rfl | (cases a3 <;> rfl)) rfl (r_Link_isShort h0 :) (fun _ _ q => nomatch q.2) (fun r ph' q => ?_)
    obtain ⟨rfl, q⟩ := q
    cases q
    refine px_ifeq rfl (by decide) rfl (fun hc => ?_) (fun hc => ?_)
    · replace h := (if_pos hc).symm.trans h
      refine px_ld rfl rfl rfl rfl rfl ?_
      refine px_ld rfl rfl rfl rfl rfl ?_
      refine px_ic (k := 12) rfl rfl rfl ?_
      refine px_alu rfl rfl rfl ?_
      refine px_ic (k := 4) rfl rfl rfl ?_
      obtain ⟨fs, h0, h⟩ := xs_some h
      have e1 := xo_some h0
      obtain ⟨t14, ph15, h0, h⟩ := xb_some h
      refine px_cV2 rfl rfl e1 rfl rfl rfl rfl rfl rfl rfl (r_ObjectFile_num h0 :) (fun _ _ q => nomatch q.2) (fun r ph' q => ?_)
      obtain ⟨rfl, q⟩ := q
      cases q
      refine px_alu rfl rfl rfl ?_
      refine px_st (lv' := [_, _, _, _, _, _, _, _, _, _, _, _, _, _, _]) rfl rfl rfl rfl rfl rfl rfl ?_
      refine px_ld rfl rfl rfl rfl rfl ?_
      refine px_ld rfl rfl rfl rfl rfl ?_
      refine px_ic (k := 16) rfl rfl rfl ?_
      refine px_alu rfl rfl rfl ?_
      refine px_ic (k := 8) rfl rfl rfl ?_
      obtain ⟨fs, h0, h⟩ := xs_some h
      have e1 := xo_some h0
      obtain ⟨t16, ph17, h0, h⟩ := xb_some h
      refine px_cV2 rfl rfl e1 rfl rfl rfl rfl rfl rfl rfl (r_ObjectFile_num h0 :) (fun _ _ q => nomatch q.2) (fun r ph' q => ?_)
      obtain ⟨rfl, q⟩ := q
      cases q
      refine px_st (lv' := [_, _, _, _, _, _, _, _, _, _, _, _, _, _, _]) rfl rfl rfl rfl rfl rfl rfl ?_
      refine px_ld rfl rfl rfl rfl rfl ?_
      refine px_ic (k := 9) rfl rfl rfl ?_
      refine px_iceq rfl (by decide) rfl (fun hc => ?_) (fun hc => ?_)
      · replace h := (if_pos hc).symm.trans h
        refine px_forget (n := 2) (lv' := [_, _, _, _, _, _, _, _, _, _, _, _, _, _, _]) rfl ?_
        refine px_forget (n := 4) (lv' := [_, _, _, _, _, _, _, _, _, _, _, _, _, _, _]) rfl ?_
        exact (r_Filler_fillSite_117 h :)
      · replace h := (if_neg hc).symm.trans h
        refine px_ld rfl rfl rfl rfl rfl ?_
        refine px_ic (k := 22) rfl rfl rfl ?_
        refine px_iceq rfl (by decide) rfl (fun hc => ?_) (fun hc => ?_)
        · replace h := (if_pos hc).symm.trans h
          refine px_forget (n := 2) (lv' := [_, _, _, _, _, _, _, _, _, _, _, _, _, _, _]) rfl ?_
          refine px_forget (n := 4) (lv' := [_, _, _, _, _, _, _, _, _, _, _, _, _, _, _]) rfl ?_
          exact (r_Filler_fillSite_117 h :)
        · replace h := (if_neg hc).symm.trans h
          refine px_ld rfl rfl rfl rfl rfl ?_
          refine px_ic (k := 23) rfl rfl rfl ?_
          refine px_icle rfl (by decide) rfl (fun hc => ?_) (fun hc => ?_)
          · replace h := (if_pos hc).symm.trans h
            refine px_ic (k := 0) rfl rfl rfl ?_
            refine px_forget (n := 2) (lv' := [_, _, _, _, _, _, _, _, _, _, _, _, _, _, _]) rfl ?_
            refine px_forget (n := 4) (lv' := [_, _, _, _, _, _, _, _, _, _, _, _, _, _, _]) rfl ?_
            exact (r_Filler_fillSite_122 h :)
          · replace h := (if_neg hc).symm.trans h
            refine px_forget (n := 2) (lv' := [_, _, _, _, _, _, _, _, _, _, _, _, _, _, _]) rfl ?_
            refine px_forget (n := 4) (lv' := [_, _, _, _, _, _, _, _, _, _, _, _, _, _, _]) rfl ?_
            exact (r_Filler_fillSite_117 h :)
    · replace h := (if_neg hc).symm.trans h
      refine px_ld rfl rfl rfl rfl rfl ?_
      refine px_ld rfl rfl rfl rfl rfl ?_
      refine px_ld rfl rfl rfl rfl rfl ?_
      refine px_ld rfl rfl rfl (by first | rfl | (cases a3 <;> rfl)) rfl ?_
      obtain ⟨fs, h0, h⟩ := xs_some h
      have e1 := xo_some h0
      obtain ⟨t18, ph19, h0, h⟩ := xb_some h
      refine px_cV3 (lv0 := [.ref a0, .int a1, .int a2, va_rf a3, px_u, px_u, px_u, px_u, px_u, px_u, px_u, px_u]) rfl rfl e1 rfl rfl rfl (by first | rfl | (cases a3 <;> rfl)) rfl (by first | rfl | (cases a3 <;> rfl)) rfl (r_Filler_fillShort h0 :) (fun _ _ q => nomatch q.2) (fun r ph' q => ?_)
      obtain ⟨rfl, q⟩ := q
      cases q
      obtain ⟨e0, e1, e2⟩ := xz_some h
      subst e1 e2
      exact px_iret rfl (Or.inr ⟨rfl, e0⟩) rfl ⟨rfl, rfl⟩
  · replace h := (if_neg hc).symm.trans h
    refine px_ic (k := 1) rfl rfl rfl ?_
    cases h
    exact px_iret rfl (Or.inr ⟨rfl, Or.inr rfl⟩) rfl ⟨rfl, rfl⟩
def f_Filler_fillSites_142 (F : Nat) (c : px_CT) (ph : px_H) : Option (Int32 × px_H) :=
  some (nI 1, ph)
theorem r_Filler_fillSites_142 {l : Launch} {g : px_G} {d F : Nat} {ph : px_H} {r : Int32} {ph' : px_H} (h : f_Filler_fillSites_142 F (px_ct g) ph = some (r, ph')) : PW l g (d + 5) m_Filler_fillSites 142 [px_u, px_u, px_u, px_u, px_u, px_u, px_u, px_u] [] ph (px_qI r ph') := by
  unfold f_Filler_fillSites_142 at h
  refine px_ic (k := 1) rfl rfl rfl ?_
  cases h
  exact px_iret rfl (Or.inr ⟨rfl, Or.inr rfl⟩) rfl ⟨rfl, rfl⟩
def f_Filler_fillSites_136 (F : Nat) (c : px_CT) (k2 : Nat → Int32 → px_H → Option (Int32 × px_H)) (a0 : Nat) (a1 : Int32) (ph : px_H) : Option (Int32 × px_H) :=
  k2 a0 (a1 + nI 1) ph
theorem r_Filler_fillSites_136 {l : Launch} {g : px_G} {d F : Nat} {k2 : Nat → Int32 → px_H → Option (Int32 × px_H)} (hk2 : ∀ {a0 : Nat} {a1 : Int32} {ph : px_H} {r : Int32} {ph' : px_H}, k2 a0 a1 ph = some (r, ph') → PW l g (d + 5) m_Filler_fillSites 2 [.ref a0, .int a1, px_u, px_u, px_u, px_u, px_u, px_u] [] ph (px_qI r ph')) {a0 : Nat} {a1 : Int32} {ph : px_H} {r : Int32} {ph' : px_H} (h : f_Filler_fillSites_136 F (px_ct g) k2 a0 a1 ph = some (r, ph')) : PW l g (d + 5) m_Filler_fillSites 136 [.ref a0, .int a1, px_u, px_u, px_u, px_u, px_u, px_u] [] ph (px_qI r ph') := by
  unfold f_Filler_fillSites_136 at h
  refine px_iinc (lv' := [_, _, _, _, _, _, _, _]) rfl rfl rfl rfl rfl rfl ?_
  refine px_goto rfl (by decide) rfl ?_
  exact (hk2 h :)
def f_Filler_fillSites_130 (F : Nat) (c : px_CT) (k2 : Nat → Int32 → px_H → Option (Int32 × px_H)) (k24 : Nat → Int32 → Option Nat → Int32 → px_H → Option (Int32 × px_H)) (a0 : Nat) (a1 : Int32) (a2 : Option Nat) (a3 : Int32) (ph : px_H) : Option (Int32 × px_H) :=
  k24 a0 a1 a2 (a3 + nI 1) ph
theorem r_Filler_fillSites_130 {l : Launch} {g : px_G} {d F : Nat} {k2 : Nat → Int32 → px_H → Option (Int32 × px_H)} (hk2 : ∀ {a0 : Nat} {a1 : Int32} {ph : px_H} {r : Int32} {ph' : px_H}, k2 a0 a1 ph = some (r, ph') → PW l g (d + 5) m_Filler_fillSites 2 [.ref a0, .int a1, px_u, px_u, px_u, px_u, px_u, px_u] [] ph (px_qI r ph')) {k24 : Nat → Int32 → Option Nat → Int32 → px_H → Option (Int32 × px_H)} (hk24 : ∀ {a0 : Nat} {a1 : Int32} {a2 : Option Nat} {a3 : Int32} {ph : px_H} {r : Int32} {ph' : px_H}, k24 a0 a1 a2 a3 ph = some (r, ph') → PW l g (d + 5) m_Filler_fillSites 24 [.ref a0, .int a1, va_rf a2, .int a3, px_u, px_u, px_u, px_u] [] ph (px_qI r ph')) {a0 : Nat} {a1 : Int32} {a2 : Option Nat} {a3 : Int32} {ph : px_H} {r : Int32} {ph' : px_H} (h : f_Filler_fillSites_130 F (px_ct g) k2 k24 a0 a1 a2 a3 ph = some (r, ph')) : PW l g (d + 5) m_Filler_fillSites 130 [.ref a0, .int a1, va_rf a2, .int a3, px_u, px_u, px_u, px_u] [] ph (px_qI r ph') := by
  unfold f_Filler_fillSites_130 at h
  refine px_iinc (lv' := [_, _, _, _, _, _, _, _]) rfl rfl rfl (by first | rfl | (cases a2 <;> rfl)) rfl rfl ?_
  refine px_goto rfl (by decide) rfl ?_
  exact (hk24 h :)
def f_Filler_fillSites_95 (F : Nat) (c : px_CT) (a0 : Nat) (a2 : Option Nat) (a4 : Option Nat) (a6 : Int32) (a7 : Int32) (ph : px_H) : Option (Int32 × px_H) :=
  (xgR ph 1 0 a0).bind fun t1 =>
  (a4).bind fun p2 =>
  (xgJ ph 8 11 p2).bind fun t3 =>
  (a2).bind fun p4 =>
  (xo ph 7 p4).bind fun _ =>
  xb (f_ObjectFile_num F c p4 (a6 + ((nI 24) * a7)) (nI 8) ph) fun t5 ph6 =>
  (xpJ ph6 3 19 t1 (t3 + t5)).bind fun ph7 =>
  some (nI 0, ph7)
theorem r_Filler_fillSites_95 {l : Launch} {g : px_G} {d F : Nat} {a0 : Nat} {a2 : Option Nat} {a4 : Option Nat} {a6 : Int32} {a7 : Int32} {ph : px_H} {r : Int32} {ph' : px_H} (h : f_Filler_fillSites_95 F (px_ct g) a0 a2 a4 a6 a7 ph = some (r, ph')) : PW l g (d + 5) m_Filler_fillSites 95 [.ref a0, px_u, va_rf a2, px_u, va_rf a4, px_u, .int a6, .int a7] [] ph (px_qI r ph') := by
  unfold f_Filler_fillSites_95 at h
  refine px_ld rfl rfl rfl rfl rfl ?_
  obtain ⟨t1, h0, h⟩ := xs_some h
  obtain ⟨fs, e1, e2⟩ := xgR_some h0
  refine px_get rfl e1 e2 rfl ?_
  refine px_ld rfl rfl rfl (by first | rfl | (cases a4 <;> rfl)) rfl ?_
  obtain ⟨p2, h0, h⟩ := xs_some h
  revert h
  subst h0
  intro h
  obtain ⟨t3, h0, h⟩ := xs_some h
  obtain ⟨fs, e1, e2⟩ := xgJ_some h0
  refine px_get rfl e1 e2 rfl ?_
  refine px_ld rfl rfl rfl (by first | rfl | (cases a2 <;> rfl)) rfl ?_
  refine px_ld rfl rfl rfl rfl rfl ?_
  refine px_ic (k := 24) rfl rfl rfl ?_
  refine px_ld rfl rfl rfl rfl rfl ?_
  refine px_alu rfl rfl rfl ?_
  refine px_alu rfl rfl rfl ?_
  refine px_ic (k := 8) rfl rfl rfl ?_
  obtain ⟨p4, h0, h⟩ := xs_some h
  revert h
  subst h0
  intro h
  obtain ⟨fs, h0, h⟩ := xs_some h
  have e1 := xo_some h0
  obtain ⟨t5, ph6, h0, h⟩ := xb_some h
  refine px_cV2 rfl rfl e1 rfl rfl rfl rfl rfl rfl rfl (r_ObjectFile_num h0 :) (fun _ _ q => nomatch q.2) (fun r ph' q => ?_)
  obtain ⟨rfl, q⟩ := q
  cases q
  refine px_alu rfl rfl rfl ?_
  obtain ⟨ph7, h0, h⟩ := xs_some h
  obtain ⟨fs, e1, e2, e3⟩ := xpJ_some h0
  subst e3
  refine px_put rfl e1 e2 trivial rfl ?_
  refine px_ic (k := 0) rfl rfl rfl ?_
  cases h
  exact px_iret rfl (Or.inr ⟨rfl, Or.inl rfl⟩) rfl ⟨rfl, rfl⟩
def f_Filler_fillSites_70 (F : Nat) (c : px_CT) (k2 : Nat → Int32 → px_H → Option (Int32 × px_H)) (k24 : Nat → Int32 → Option Nat → Int32 → px_H → Option (Int32 × px_H)) : Nat → Nat → Int32 → Option Nat → Int32 → Option Nat → Int32 → Int32 → Int32 → px_H → Option (Int32 × px_H)
  | 0, _, _, _, _, _, _, _, _, _ => none
  | n + 1, a0, a1, a2, a3, a4, a5, a6, a7, ph =>
    if a5 ≤ a7 then
      f_Filler_fillSites_130 F c k2 k24 a0 a1 a2 a3 ph
    else
      (xo ph 1 a0).bind fun _ =>
      xb (f_Filler_fillSite F c a0 a1 (a6 + ((nI 24) * a7)) a4 ph) fun t1 ph2 =>
      if t1 = 0 then
        f_Filler_fillSites_95 F c a0 a2 a4 a6 a7 ph2
      else
        f_Filler_fillSites_70 F c k2 k24 n a0 a1 a2 a3 a4 a5 a6 (a7 + nI 1) ph2
theorem r_Filler_fillSites_70 {l : Launch} {g : px_G} {d F : Nat} {k2 : Nat → Int32 → px_H → Option (Int32 × px_H)} (hk2 : ∀ {a0 : Nat} {a1 : Int32} {ph : px_H} {r : Int32} {ph' : px_H}, k2 a0 a1 ph = some (r, ph') → PW l g (d + 5) m_Filler_fillSites 2 [.ref a0, .int a1, px_u, px_u, px_u, px_u, px_u, px_u] [] ph (px_qI r ph')) {k24 : Nat → Int32 → Option Nat → Int32 → px_H → Option (Int32 × px_H)} (hk24 : ∀ {a0 : Nat} {a1 : Int32} {a2 : Option Nat} {a3 : Int32} {ph : px_H} {r : Int32} {ph' : px_H}, k24 a0 a1 a2 a3 ph = some (r, ph') → PW l g (d + 5) m_Filler_fillSites 24 [.ref a0, .int a1, va_rf a2, .int a3, px_u, px_u, px_u, px_u] [] ph (px_qI r ph')) : ∀ (n : Nat) {a0 : Nat} {a1 : Int32} {a2 : Option Nat} {a3 : Int32} {a4 : Option Nat} {a5 : Int32} {a6 : Int32} {a7 : Int32} {ph : px_H} {r : Int32} {ph' : px_H}, f_Filler_fillSites_70 F (px_ct g) k2 k24 n a0 a1 a2 a3 a4 a5 a6 a7 ph = some (r, ph') → PW l g (d + 5) m_Filler_fillSites 70 [.ref a0, .int a1, va_rf a2, .int a3, va_rf a4, .int a5, .int a6, .int a7] [] ph (px_qI r ph') := by
  intro n
  induction n with
  | zero => intro _ _ _ _ _ _ _ _ _ _ _ h; cases h
  | succ n ih =>
    intro a0 a1 a2 a3 a4 a5 a6 a7 ph r ph' h
    unfold f_Filler_fillSites_70 at h
    refine px_ld rfl rfl rfl rfl rfl ?_
    refine px_ld rfl rfl rfl rfl rfl ?_
    refine px_icge rfl (by decide) rfl (fun hc => ?_) (fun hc => ?_)
    · replace h := (if_pos hc).symm.trans h
      refine px_forget (n := 4) (lv' := [_, _, _, _, _, _, _, _]) rfl ?_
      refine px_forget (n := 5) (lv' := [_, _, _, _, _, _, _, _]) rfl ?_
      refine px_forget (n := 6) (lv' := [_, _, _, _, _, _, _, _]) rfl ?_
      refine px_forget (n := 7) (lv' := [_, _, _, _, _, _, _, _]) rfl ?_
      exact (r_Filler_fillSites_130 @hk2 @hk24 h :)
    · replace h := (if_neg hc).symm.trans h
      refine px_ld rfl rfl rfl rfl rfl ?_
      refine px_ld rfl rfl rfl rfl rfl ?_
      refine px_ld rfl rfl rfl rfl rfl ?_
      refine px_ic (k := 24) rfl rfl rfl ?_
      refine px_ld rfl rfl rfl rfl rfl ?_
      refine px_alu rfl rfl rfl ?_
      refine px_alu rfl rfl rfl ?_
      refine px_ld rfl rfl rfl (by first | rfl | (cases a4 <;> rfl)) rfl ?_
      obtain ⟨fs, h0, h⟩ := xs_some h
      have e1 := xo_some h0
      obtain ⟨t1, ph2, h0, h⟩ := xb_some h
      refine px_cV3 (lv0 := [.ref a0, .int a1, .int (a6 + ((nI 24) * a7)), va_rf a4, px_u, px_u, px_u, px_u, px_u, px_u, px_u, px_u, px_u, px_u, px_u]) rfl rfl e1 rfl rfl rfl (by first | rfl | (cases a4 <;> rfl)) rfl (by first | rfl | (cases a4 <;> rfl)) rfl (r_Filler_fillSite h0 :) (fun _ _ q => nomatch q.2) (fun r ph' q => ?_)
      obtain ⟨rfl, q⟩ := q
      cases q
      refine px_ifne rfl (by decide) rfl (fun hc => ?_) (fun hc => ?_)
      · replace h := (if_neg hc).symm.trans h
        refine px_iinc (lv' := [_, _, _, _, _, _, _, _]) rfl rfl rfl rfl rfl rfl ?_
        refine px_goto rfl (by decide) rfl ?_
        exact (ih h :)
      · replace h := (if_pos hc).symm.trans h
        refine px_forget (n := 1) (lv' := [_, _, _, _, _, _, _, _]) rfl ?_
        refine px_forget (n := 3) (lv' := [_, _, _, _, _, _, _, _]) rfl ?_
        refine px_forget (n := 5) (lv' := [_, _, _, _, _, _, _, _]) rfl ?_
        exact (r_Filler_fillSites_95 h :)
def f_Filler_fillSites_57 (F : Nat) (c : px_CT) (k2 : Nat → Int32 → px_H → Option (Int32 × px_H)) (k24 : Nat → Int32 → Option Nat → Int32 → px_H → Option (Int32 × px_H)) (a0 : Nat) (a1 : Int32) (a2 : Option Nat) (a3 : Int32) (a4 : Option Nat) (s0 : Int32) (ph : px_H) : Option (Int32 × px_H) :=
  (a2).bind fun p1 =>
  (xo ph 7 p1).bind fun _ =>
  xb (f_ObjectFile_placeOf F c p1 a3 ph) fun t2 ph3 =>
  f_Filler_fillSites_70 F c k2 k24 F a0 a1 (some p1) a3 a4 s0 t2.toInt32 (nI 0) ph3
theorem r_Filler_fillSites_57 {l : Launch} {g : px_G} {d F : Nat} {k2 : Nat → Int32 → px_H → Option (Int32 × px_H)} (hk2 : ∀ {a0 : Nat} {a1 : Int32} {ph : px_H} {r : Int32} {ph' : px_H}, k2 a0 a1 ph = some (r, ph') → PW l g (d + 5) m_Filler_fillSites 2 [.ref a0, .int a1, px_u, px_u, px_u, px_u, px_u, px_u] [] ph (px_qI r ph')) {k24 : Nat → Int32 → Option Nat → Int32 → px_H → Option (Int32 × px_H)} (hk24 : ∀ {a0 : Nat} {a1 : Int32} {a2 : Option Nat} {a3 : Int32} {ph : px_H} {r : Int32} {ph' : px_H}, k24 a0 a1 a2 a3 ph = some (r, ph') → PW l g (d + 5) m_Filler_fillSites 24 [.ref a0, .int a1, va_rf a2, .int a3, px_u, px_u, px_u, px_u] [] ph (px_qI r ph')) {a0 : Nat} {a1 : Int32} {a2 : Option Nat} {a3 : Int32} {a4 : Option Nat} {s0 : Int32} {ph : px_H} {r : Int32} {ph' : px_H} (h : f_Filler_fillSites_57 F (px_ct g) k2 k24 a0 a1 a2 a3 a4 s0 ph = some (r, ph')) : PW l g (d + 5) m_Filler_fillSites 57 [.ref a0, .int a1, va_rf a2, .int a3, va_rf a4, px_u, px_u, px_u] [.int s0] ph (px_qI r ph') := by
  unfold f_Filler_fillSites_57 at h
  refine px_st (lv' := [.ref a0, .int a1, va_rf a2, .int a3, va_rf a4, .int s0, px_u, px_u]) rfl rfl rfl rfl (by first | rfl | (cases a4 <;> rfl)) rfl rfl ?_
  refine px_ld rfl rfl rfl (by first | rfl | (cases a2 <;> rfl)) rfl ?_
  refine px_ld rfl rfl rfl rfl rfl ?_
  obtain ⟨p1, h0, h⟩ := xs_some h
  revert h
  subst h0
  intro h
  obtain ⟨fs, h0, h⟩ := xs_some h
  have e1 := xo_some h0
  obtain ⟨t2, ph3, h0, h⟩ := xb_some h
  refine px_cV1 rfl rfl e1 rfl rfl rfl rfl rfl rfl rfl (r_ObjectFile_placeOf h0 :) (fun _ _ q => nomatch q.2) (fun r ph' q => ?_)
  obtain ⟨rfl, q⟩ := q
  cases q
  refine px_alu rfl rfl rfl ?_
  refine px_st (lv' := [_, _, _, _, _, _, _, _]) rfl rfl rfl rfl rfl rfl rfl ?_
  refine px_ic (k := 0) rfl rfl rfl ?_
  refine px_st (lv' := [_, _, _, _, _, _, _, _]) rfl rfl rfl rfl rfl rfl rfl ?_
  exact (r_Filler_fillSites_70 @hk2 @hk24 _ h :)
def f_Filler_fillSites_24 (F : Nat) (c : px_CT) (k2 : Nat → Int32 → px_H → Option (Int32 × px_H)) : Nat → Nat → Int32 → Option Nat → Int32 → px_H → Option (Int32 × px_H)
  | 0, _, _, _, _, _ => none
  | n + 1, a0, a1, a2, a3, ph =>
    (a2).bind fun p1 =>
    (xgI ph 7 8 p1).bind fun t2 =>
    if t2 ≤ a3 then
      f_Filler_fillSites_136 F c k2 a0 a1 ph
    else
      (xgR ph 1 0 a0).bind fun t3 =>
      (xo ph 3 t3).bind fun _ =>
      xb (f_Link_stayingTarget F c t3 a1 a3 ph) fun t4 ph5 =>
      (match t4 with
        | none => f_Filler_fillSites_57 F c k2 (f_Filler_fillSites_24 F c k2 n) a0 a1 (some p1) a3 none (nI 0) ph5
        | some p6 => (xo ph5 7 p1).bind fun _ =>
        xb (f_ObjectFile_sitesOf F c p1 a3 ph5) fun t7 ph8 =>
        f_Filler_fillSites_57 F c k2 (f_Filler_fillSites_24 F c k2 n) a0 a1 (some p1) a3 (some p6) t7 ph8)
theorem r_Filler_fillSites_24 {l : Launch} {g : px_G} {d F : Nat} {k2 : Nat → Int32 → px_H → Option (Int32 × px_H)} (hk2 : ∀ {a0 : Nat} {a1 : Int32} {ph : px_H} {r : Int32} {ph' : px_H}, k2 a0 a1 ph = some (r, ph') → PW l g (d + 5) m_Filler_fillSites 2 [.ref a0, .int a1, px_u, px_u, px_u, px_u, px_u, px_u] [] ph (px_qI r ph')) : ∀ (n : Nat) {a0 : Nat} {a1 : Int32} {a2 : Option Nat} {a3 : Int32} {ph : px_H} {r : Int32} {ph' : px_H}, f_Filler_fillSites_24 F (px_ct g) k2 n a0 a1 a2 a3 ph = some (r, ph') → PW l g (d + 5) m_Filler_fillSites 24 [.ref a0, .int a1, va_rf a2, .int a3, px_u, px_u, px_u, px_u] [] ph (px_qI r ph') := by
  intro n
  induction n with
  | zero => intro _ _ _ _ _ _ _ h; cases h
  | succ n ih =>
    intro a0 a1 a2 a3 ph r ph' h
    unfold f_Filler_fillSites_24 at h
    refine px_ld rfl rfl rfl rfl rfl ?_
    refine px_ld rfl rfl rfl (by first | rfl | (cases a2 <;> rfl)) rfl ?_
    obtain ⟨p1, h0, h⟩ := xs_some h
    revert h
    subst h0
    intro h
    obtain ⟨t2, h0, h⟩ := xs_some h
    obtain ⟨fs, e1, e2⟩ := xgI_some h0
    refine px_get rfl e1 e2 rfl ?_
    refine px_icge rfl (by decide) rfl (fun hc => ?_) (fun hc => ?_)
    · replace h := (if_pos hc).symm.trans h
      refine px_forget (n := 2) (lv' := [_, _, _, _, _, _, _, _]) rfl ?_
      refine px_forget (n := 3) (lv' := [_, _, _, _, _, _, _, _]) rfl ?_
      exact (r_Filler_fillSites_136 @hk2 h :)
    · replace h := (if_neg hc).symm.trans h
      refine px_ld rfl rfl rfl rfl rfl ?_
      obtain ⟨t3, h0, h⟩ := xs_some h
      obtain ⟨fs, e1, e2⟩ := xgR_some h0
      refine px_get rfl e1 e2 rfl ?_
      refine px_ld rfl rfl rfl rfl rfl ?_
      refine px_ld rfl rfl rfl rfl rfl ?_
      obtain ⟨fs, h0, h⟩ := xs_some h
      have e1 := xo_some h0
      obtain ⟨t4, ph5, h0, h⟩ := xb_some h
      refine px_cV2 rfl rfl e1 rfl rfl rfl rfl rfl rfl rfl (r_Link_stayingTarget h0 :) (fun _ _ q => nomatch q.2) (fun r ph' q => ?_)
      obtain ⟨rfl, q⟩ := q
      cases q
      refine px_st (lv' := [.ref a0, .int a1, .ref p1, .int a3, va_rf t4, px_u, px_u, px_u]) rfl rfl (by first | rfl | (cases t4 <;> rfl)) (by first | rfl | (cases t4 <;> rfl)) rfl (by first | rfl | (cases t4 <;> rfl)) rfl ?_
      refine px_ld rfl rfl rfl (by first | rfl | (cases t4 <;> rfl)) rfl ?_
      cases t4 with
      | none =>
        refine px_ifnnN rfl rfl ?_
        refine px_ic (k := 0) rfl rfl rfl ?_
        refine px_goto rfl (by decide) rfl ?_
        exact (r_Filler_fillSites_57 @hk2 @ih h :)
      | some p6 =>
        refine px_ifnnR rfl (by decide) rfl ?_
        refine px_ld rfl rfl rfl rfl rfl ?_
        refine px_ld rfl rfl rfl rfl rfl ?_
        obtain ⟨fs, h0, h⟩ := xs_some h
        have e1 := xo_some h0
        obtain ⟨t7, ph8, h0, h⟩ := xb_some h
        refine px_cV1 rfl rfl e1 rfl rfl rfl rfl rfl rfl rfl (r_ObjectFile_sitesOf h0 :) (fun _ _ q => nomatch q.2) (fun r ph' q => ?_)
        obtain ⟨rfl, q⟩ := q
        cases q
        exact (r_Filler_fillSites_57 @hk2 @ih h :)
def f_Filler_fillSites_2 (F : Nat) (c : px_CT) : Nat → Nat → Int32 → px_H → Option (Int32 × px_H)
  | 0, _, _, _ => none
  | n + 1, a0, a1, ph =>
    (xgR ph 1 0 a0).bind fun t1 =>
    (xgI ph 3 14 t1).bind fun t2 =>
    if t2 ≤ a1 then
      f_Filler_fillSites_142 F c ph
    else
      (xgR ph 1 0 a0).bind fun t3 =>
      (xo ph 3 t3).bind fun _ =>
      xb (f_Link_object F c t3 a1 ph) fun t4 ph5 =>
      f_Filler_fillSites_24 F c (f_Filler_fillSites_2 F c n) F a0 a1 t4 (nI 0) ph5
theorem r_Filler_fillSites_2 {l : Launch} {g : px_G} {d F : Nat} : ∀ (n : Nat) {a0 : Nat} {a1 : Int32} {ph : px_H} {r : Int32} {ph' : px_H}, f_Filler_fillSites_2 F (px_ct g) n a0 a1 ph = some (r, ph') → PW l g (d + 5) m_Filler_fillSites 2 [.ref a0, .int a1, px_u, px_u, px_u, px_u, px_u, px_u] [] ph (px_qI r ph') := by
  intro n
  induction n with
  | zero => intro _ _ _ _ _ h; cases h
  | succ n ih =>
    intro a0 a1 ph r ph' h
    unfold f_Filler_fillSites_2 at h
    refine px_ld rfl rfl rfl rfl rfl ?_
    refine px_ld rfl rfl rfl rfl rfl ?_
    obtain ⟨t1, h0, h⟩ := xs_some h
    obtain ⟨fs, e1, e2⟩ := xgR_some h0
    refine px_get rfl e1 e2 rfl ?_
    obtain ⟨t2, h0, h⟩ := xs_some h
    obtain ⟨fs, e1, e2⟩ := xgI_some h0
    refine px_get rfl e1 e2 rfl ?_
    refine px_icge rfl (by decide) rfl (fun hc => ?_) (fun hc => ?_)
    · replace h := (if_pos hc).symm.trans h
      refine px_forget (n := 0) (lv' := [_, _, _, _, _, _, _, _]) rfl ?_
      refine px_forget (n := 1) (lv' := [_, _, _, _, _, _, _, _]) rfl ?_
      exact (r_Filler_fillSites_142 h :)
    · replace h := (if_neg hc).symm.trans h
      refine px_ld rfl rfl rfl rfl rfl ?_
      obtain ⟨t3, h0, h⟩ := xs_some h
      obtain ⟨fs, e1, e2⟩ := xgR_some h0
      refine px_get rfl e1 e2 rfl ?_
      refine px_ld rfl rfl rfl rfl rfl ?_
      obtain ⟨fs, h0, h⟩ := xs_some h
      have e1 := xo_some h0
      obtain ⟨t4, ph5, h0, h⟩ := xb_some h
      refine px_cV1 rfl rfl e1 rfl rfl rfl rfl rfl rfl rfl (r_Link_object h0 :) (fun _ _ q => nomatch q.2) (fun r ph' q => ?_)
      obtain ⟨rfl, q⟩ := q
      cases q
      refine px_st (lv' := [.ref a0, .int a1, va_rf t4, px_u, px_u, px_u, px_u, px_u]) rfl rfl (by first | rfl | (cases t4 <;> rfl)) (by first | rfl | (cases t4 <;> rfl)) rfl (by first | rfl | (cases t4 <;> rfl)) rfl ?_
      refine px_ic (k := 0) rfl rfl rfl ?_
      refine px_st (lv' := [.ref a0, .int a1, va_rf t4, .int (nI 0), px_u, px_u, px_u, px_u]) rfl rfl rfl rfl (by first | rfl | (cases t4 <;> rfl)) rfl rfl ?_
      exact (r_Filler_fillSites_24 @ih _ h :)
def f_Filler_fillSites (F : Nat) (c : px_CT) (a0 : Nat) (ph : px_H) : Option (Int32 × px_H) :=
  f_Filler_fillSites_2 F c F a0 (nI 0) ph
theorem r_Filler_fillSites {l : Launch} {g : px_G} {d F : Nat} {a0 : Nat} {ph : px_H} {r : Int32} {ph' : px_H} (h : f_Filler_fillSites F (px_ct g) a0 ph = some (r, ph')) : PW l g (d + 5) m_Filler_fillSites 0 [.ref a0, px_u, px_u, px_u, px_u, px_u, px_u, px_u] [] ph (px_qI r ph') := by
  unfold f_Filler_fillSites at h
  refine px_ic (k := 0) rfl rfl rfl ?_
  refine px_st (lv' := [_, _, _, _, _, _, _, _]) rfl rfl rfl rfl rfl rfl rfl ?_
  exact (r_Filler_fillSites_2 _ h :)
def f_Row_copy_16 (F : Nat) (c : px_CT) (ph : px_H) : Option (Unit × px_H) :=
  some ((), ph)
theorem r_Row_copy_16 {l : Launch} {g : px_G} {d F : Nat} {ph : px_H} {r : Unit} {ph' : px_H} (h : f_Row_copy_16 F (px_ct g) ph = some (r, ph')) : PW l g (d + 1) m_Row_copy 16 [px_u, px_u, px_u, px_u] [] ph (px_qV r ph') := by
  unfold f_Row_copy_16 at h
  cases h
  exact px_vret rfl rfl rfl ⟨rfl, rfl⟩
def f_Row_copy (F : Nat) (c : px_CT) (a0 : Nat) (a1 : Nat) (a2 : Int32) (a3 : Int32) (ph : px_H) : Option (Unit × px_H) :=
  if a2 < 0 then
    f_Row_copy_16 F c ph
  else
    if a3 < 0 then
      f_Row_copy_16 F c ph
    else
      (xal ph 0 a1).bind fun t1 =>
      if a3 ≤ (t1 - a2) then
        (xgR ph 10 0 a0).bind fun t2 =>
        (xal ph 0 t2).bind fun t3 =>
        (xgI ph 10 1 a0).bind fun t4 =>
        if a3 ≤ (t3 - t4) then
          (xgR ph 10 0 a0).bind fun t5 =>
          (xgI ph 10 1 a0).bind fun t6 =>
          (xcpy ph a1 a2 t5 t6 a3).bind fun ph7 =>
          (xgI ph7 10 1 a0).bind fun t8 =>
          (xpI ph7 10 1 a0 (t8 + a3)).bind fun ph9 =>
          some ((), ph9)
        else
          (xpZ ph 10 2 a0 (nI 1)).bind fun ph10 =>
          some ((), ph10)
      else
        f_Row_copy_16 F c ph
theorem r_Row_copy {l : Launch} {g : px_G} {d F : Nat} {a0 : Nat} {a1 : Nat} {a2 : Int32} {a3 : Int32} {ph : px_H} {r : Unit} {ph' : px_H} (h : f_Row_copy F (px_ct g) a0 a1 a2 a3 ph = some (r, ph')) : PW l g (d + 1) m_Row_copy 0 [.ref a0, .ref a1, .int a2, .int a3] [] ph (px_qV r ph') := by
  unfold f_Row_copy at h
  refine px_ld rfl rfl rfl rfl rfl ?_
  refine px_iflt rfl rfl rfl (fun hc => ?_) (fun hc => ?_)
  · replace h := (if_pos hc).symm.trans h
    refine px_forget (n := 0) (lv' := [_, _, _, _]) rfl ?_
    refine px_forget (n := 1) (lv' := [_, _, _, _]) rfl ?_
    refine px_forget (n := 2) (lv' := [_, _, _, _]) rfl ?_
    refine px_forget (n := 3) (lv' := [_, _, _, _]) rfl ?_
    exact (r_Row_copy_16 h :)
  · replace h := (if_neg hc).symm.trans h
    refine px_ld rfl rfl rfl rfl rfl ?_
    refine px_iflt rfl rfl rfl (fun hc => ?_) (fun hc => ?_)
    · replace h := (if_pos hc).symm.trans h
      refine px_forget (n := 0) (lv' := [_, _, _, _]) rfl ?_
      refine px_forget (n := 1) (lv' := [_, _, _, _]) rfl ?_
      refine px_forget (n := 2) (lv' := [_, _, _, _]) rfl ?_
      refine px_forget (n := 3) (lv' := [_, _, _, _]) rfl ?_
      exact (r_Row_copy_16 h :)
    · replace h := (if_neg hc).symm.trans h
      refine px_ld rfl rfl rfl rfl rfl ?_
      refine px_ld rfl rfl rfl rfl rfl ?_
      obtain ⟨t1, h0, h⟩ := xs_some h
      obtain ⟨x, e1, e3⟩ := xal_some h0
      subst e3
      refine px_alen rfl e1 rfl rfl ?_
      refine px_ld rfl rfl rfl rfl rfl ?_
      refine px_alu rfl rfl rfl ?_
      refine px_icle rfl rfl rfl (fun hc => ?_) (fun hc => ?_)
      · replace h := (if_pos hc).symm.trans h
        refine px_ld rfl rfl rfl rfl rfl ?_
        refine px_ld rfl rfl rfl rfl rfl ?_
        obtain ⟨t2, h0, h⟩ := xs_some h
        obtain ⟨fs, e1, e2⟩ := xgR_some h0
        refine px_get rfl e1 e2 rfl ?_
        obtain ⟨t3, h0, h⟩ := xs_some h
        obtain ⟨x, e1, e3⟩ := xal_some h0
        subst e3
        refine px_alen rfl e1 rfl rfl ?_
        refine px_ld rfl rfl rfl rfl rfl ?_
        obtain ⟨t4, h0, h⟩ := xs_some h
        obtain ⟨fs, e1, e2⟩ := xgI_some h0
        refine px_get rfl e1 e2 rfl ?_
        refine px_alu rfl rfl rfl ?_
        refine px_icle rfl rfl rfl (fun hc => ?_) (fun hc => ?_)
        · replace h := (if_pos hc).symm.trans h
          refine px_ld rfl rfl rfl rfl rfl ?_
          refine px_ld rfl rfl rfl rfl rfl ?_
          refine px_ld rfl rfl rfl rfl rfl ?_
          obtain ⟨t5, h0, h⟩ := xs_some h
          obtain ⟨fs, e1, e2⟩ := xgR_some h0
          refine px_get rfl e1 e2 rfl ?_
          refine px_ld rfl rfl rfl rfl rfl ?_
          obtain ⟨t6, h0, h⟩ := xs_some h
          obtain ⟨fs, e1, e2⟩ := xgI_some h0
          refine px_get rfl e1 e2 rfl ?_
          refine px_ld rfl rfl rfl rfl rfl ?_
          obtain ⟨ph7, h0, h⟩ := xs_some h
          obtain ⟨n0, f0, n1, f1, e0, e1, b1, b2, b3, b4, b5, b6, e3⟩ := xcpy_some h0
          subst e3
          refine px_copy rfl rfl e0 e1 b1 b2 b3 b4 b5 b6 rfl ?_
          refine px_ld rfl rfl rfl rfl rfl ?_
          refine px_alu rfl rfl rfl ?_
          obtain ⟨t8, h0, h⟩ := xs_some h
          obtain ⟨fs, e1, e2⟩ := xgI_some h0
          refine px_get rfl e1 e2 rfl ?_
          refine px_ld rfl rfl rfl rfl rfl ?_
          refine px_alu rfl rfl rfl ?_
          obtain ⟨ph9, h0, h⟩ := xs_some h
          obtain ⟨fs, e1, e2, e3⟩ := xpI_some h0
          subst e3
          refine px_put rfl e1 e2 trivial rfl ?_
          cases h
          exact px_vret rfl rfl rfl ⟨rfl, rfl⟩
        · replace h := (if_neg hc).symm.trans h
          refine px_ld rfl rfl rfl rfl rfl ?_
          refine px_ic (k := 1) rfl rfl rfl ?_
          obtain ⟨ph10, h0, h⟩ := xs_some h
          obtain ⟨fs, e1, e2, e3, e4⟩ := xpZ_some h0
          subst e3
          refine px_put rfl e1 e2 e4 rfl ?_
          cases h
          exact px_vret rfl rfl rfl ⟨rfl, rfl⟩
      · replace h := (if_neg hc).symm.trans h
        refine px_forget (n := 0) (lv' := [_, _, _, _]) rfl ?_
        refine px_forget (n := 1) (lv' := [_, _, _, _]) rfl ?_
        refine px_forget (n := 2) (lv' := [_, _, _, _]) rfl ?_
        refine px_forget (n := 3) (lv' := [_, _, _, _]) rfl ?_
        exact (r_Row_copy_16 h :)
def f_Name_writeTo_67 (F : Nat) (c : px_CT) (ph : px_H) : Option (Unit × px_H) :=
  some ((), ph)
theorem r_Name_writeTo_67 {l : Launch} {g : px_G} {d F : Nat} {ph : px_H} {r : Unit} {ph' : px_H} (h : f_Name_writeTo_67 F (px_ct g) ph = some (r, ph')) : PW l g (d + 1) m_Name_writeTo 67 [px_u, px_u, px_u, px_u, px_u] [] ph (px_qV r ph') := by
  unfold f_Name_writeTo_67 at h
  cases h
  exact px_vret rfl rfl rfl ⟨rfl, rfl⟩
def f_Name_writeTo_46 (F : Nat) (c : px_CT) (k2 : Nat → Nat → Int32 → px_H → Option (Unit × px_H)) (a0 : Nat) (a1 : Nat) (a2 : Int32) (s0 : Int64) (ph : px_H) : Option (Unit × px_H) :=
  (xo ph 10 a1).bind fun _ =>
  xb (f_Row_put F c a1 (nI 1) ((s0.toUInt64 >>> (((nI 8) * (a2 &&& (nI 7))).toInt64.toUInt64 &&& Int64.toUInt64 63)).toInt64) ph) fun _ ph1 =>
  k2 a0 a1 (a2 + nI 1) ph1
theorem r_Name_writeTo_46 {l : Launch} {g : px_G} {d F : Nat} {k2 : Nat → Nat → Int32 → px_H → Option (Unit × px_H)} (hk2 : ∀ {a0 : Nat} {a1 : Nat} {a2 : Int32} {ph : px_H} {r : Unit} {ph' : px_H}, k2 a0 a1 a2 ph = some (r, ph') → PW l g (d + 1) m_Name_writeTo 2 [.ref a0, .ref a1, .int a2, px_u, px_u] [] ph (px_qV r ph')) {a0 : Nat} {a1 : Nat} {a2 : Int32} {s0 : Int64} {ph : px_H} {r : Unit} {ph' : px_H} (h : f_Name_writeTo_46 F (px_ct g) k2 a0 a1 a2 s0 ph = some (r, ph')) : PW l g (d + 1) m_Name_writeTo 46 [.ref a0, .ref a1, .int a2, px_u, px_u] [.long s0] ph (px_qV r ph') := by
  unfold f_Name_writeTo_46 at h
  refine px_st (lv' := [_, _, _, _, _]) rfl rfl rfl rfl rfl rfl rfl ?_
  refine px_ld rfl rfl rfl rfl rfl ?_
  refine px_ic (k := 1) rfl rfl rfl ?_
  refine px_ld rfl rfl rfl rfl rfl ?_
  refine px_ic (k := 8) rfl rfl rfl ?_
  refine px_ld rfl rfl rfl rfl rfl ?_
  refine px_ic (k := 7) rfl rfl rfl ?_
  refine px_alu rfl rfl rfl ?_
  refine px_alu rfl rfl rfl ?_
  refine px_alu rfl rfl rfl ?_
  obtain ⟨fs, h0, h⟩ := xs_some h
  have e1 := xo_some h0
  obtain ⟨u0, ph1, h0, h⟩ := xb_some h
  refine px_cV2 rfl rfl e1 rfl rfl rfl rfl rfl rfl rfl (r_Row_put h0 :) (fun _ _ q => nomatch q.2) (fun r ph' q => ?_)
  obtain ⟨rfl, q⟩ := q
  cases q
  refine px_iinc (lv' := [_, _, _, _, _]) rfl rfl rfl rfl rfl rfl ?_
  refine px_goto rfl rfl rfl ?_
  refine px_forget (n := 3) (lv' := [_, _, _, _, _]) rfl ?_
  exact (hk2 h :)
def f_Name_writeTo_2 (F : Nat) (c : px_CT) : Nat → Nat → Nat → Int32 → px_H → Option (Unit × px_H)
  | 0, _, _, _, _ => none
  | n + 1, a0, a1, a2, ph =>
    (xgI ph 5 3 a0).bind fun t1 =>
    if t1 ≤ a2 then
      f_Name_writeTo_67 F c ph
    else
      if (nI 24) ≤ a2 then
        f_Name_writeTo_67 F c ph
      else
        if (nI 8) ≤ a2 then
          if (nI 16) ≤ a2 then
            (xgJ ph 5 2 a0).bind fun t2 =>
            f_Name_writeTo_46 F c (f_Name_writeTo_2 F c n) a0 a1 a2 t2 ph
          else
            (xgJ ph 5 1 a0).bind fun t3 =>
            f_Name_writeTo_46 F c (f_Name_writeTo_2 F c n) a0 a1 a2 t3 ph
        else
          (xgJ ph 5 0 a0).bind fun t4 =>
          f_Name_writeTo_46 F c (f_Name_writeTo_2 F c n) a0 a1 a2 t4 ph
theorem r_Name_writeTo_2 {l : Launch} {g : px_G} {d F : Nat} : ∀ (n : Nat) {a0 : Nat} {a1 : Nat} {a2 : Int32} {ph : px_H} {r : Unit} {ph' : px_H}, f_Name_writeTo_2 F (px_ct g) n a0 a1 a2 ph = some (r, ph') → PW l g (d + 1) m_Name_writeTo 2 [.ref a0, .ref a1, .int a2, px_u, px_u] [] ph (px_qV r ph') := by
  intro n
  induction n with
  | zero => intro _ _ _ _ _ _ h; cases h
  | succ n ih =>
    intro a0 a1 a2 ph r ph' h
    unfold f_Name_writeTo_2 at h
    refine px_ld rfl rfl rfl rfl rfl ?_
    refine px_ld rfl rfl rfl rfl rfl ?_
    obtain ⟨t1, h0, h⟩ := xs_some h
    obtain ⟨fs, e1, e2⟩ := xgI_some h0
    refine px_get rfl e1 e2 rfl ?_
    refine px_icge rfl rfl rfl (fun hc => ?_) (fun hc => ?_)
    · replace h := (if_pos hc).symm.trans h
      refine px_forget (n := 0) (lv' := [_, _, _, _, _]) rfl ?_
      refine px_forget (n := 1) (lv' := [_, _, _, _, _]) rfl ?_
      refine px_forget (n := 2) (lv' := [_, _, _, _, _]) rfl ?_
      exact (r_Name_writeTo_67 h :)
    · replace h := (if_neg hc).symm.trans h
      refine px_ld rfl rfl rfl rfl rfl ?_
      refine px_ic (k := 24) rfl rfl rfl ?_
      refine px_icge rfl rfl rfl (fun hc => ?_) (fun hc => ?_)
      · replace h := (if_pos hc).symm.trans h
        refine px_forget (n := 0) (lv' := [_, _, _, _, _]) rfl ?_
        refine px_forget (n := 1) (lv' := [_, _, _, _, _]) rfl ?_
        refine px_forget (n := 2) (lv' := [_, _, _, _, _]) rfl ?_
        exact (r_Name_writeTo_67 h :)
      · replace h := (if_neg hc).symm.trans h
        refine px_ld rfl rfl rfl rfl rfl ?_
        refine px_ic (k := 8) rfl rfl rfl ?_
        refine px_icge rfl rfl rfl (fun hc => ?_) (fun hc => ?_)
        · replace h := (if_pos hc).symm.trans h
          refine px_ld rfl rfl rfl rfl rfl ?_
          refine px_ic (k := 16) rfl rfl rfl ?_
          refine px_icge rfl rfl rfl (fun hc => ?_) (fun hc => ?_)
          · replace h := (if_pos hc).symm.trans h
            refine px_ld rfl rfl rfl rfl rfl ?_
            obtain ⟨t2, h0, h⟩ := xs_some h
            obtain ⟨fs, e1, e2⟩ := xgJ_some h0
            refine px_get rfl e1 e2 rfl ?_
            exact (r_Name_writeTo_46 @ih h :)
          · replace h := (if_neg hc).symm.trans h
            refine px_ld rfl rfl rfl rfl rfl ?_
            obtain ⟨t3, h0, h⟩ := xs_some h
            obtain ⟨fs, e1, e2⟩ := xgJ_some h0
            refine px_get rfl e1 e2 rfl ?_
            refine px_goto rfl rfl rfl ?_
            exact (r_Name_writeTo_46 @ih h :)
        · replace h := (if_neg hc).symm.trans h
          refine px_ld rfl rfl rfl rfl rfl ?_
          obtain ⟨t4, h0, h⟩ := xs_some h
          obtain ⟨fs, e1, e2⟩ := xgJ_some h0
          refine px_get rfl e1 e2 rfl ?_
          refine px_goto rfl rfl rfl ?_
          exact (r_Name_writeTo_46 @ih h :)
def f_Name_writeTo (F : Nat) (c : px_CT) (a0 : Nat) (a1 : Nat) (ph : px_H) : Option (Unit × px_H) :=
  f_Name_writeTo_2 F c F a0 a1 (nI 0) ph
theorem r_Name_writeTo {l : Launch} {g : px_G} {d F : Nat} {a0 : Nat} {a1 : Nat} {ph : px_H} {r : Unit} {ph' : px_H} (h : f_Name_writeTo F (px_ct g) a0 a1 ph = some (r, ph')) : PW l g (d + 1) m_Name_writeTo 0 [.ref a0, .ref a1, px_u, px_u, px_u] [] ph (px_qV r ph') := by
  unfold f_Name_writeTo at h
  refine px_ic (k := 0) rfl rfl rfl ?_
  refine px_st (lv' := [_, _, _, _, _]) rfl rfl rfl rfl rfl rfl rfl ?_
  exact (r_Name_writeTo_2 _ h :)
def f_H_runLink_139 (F : Nat) (c : px_CT) (a2 : Int32) (ph : px_H) : Option (Int32 × px_H) :=
  some (a2, ph)
theorem r_H_runLink_139 {l : Launch} {g : px_G} {d F : Nat} {a2 : Int32} {ph : px_H} {r : Int32} {ph' : px_H} (h : f_H_runLink_139 F (px_ct g) a2 ph = some (r, ph')) : PW l g (d + 8) m_H_runLink 139 [px_u, px_u, .int a2] [] ph (px_qI r ph') := by
  unfold f_H_runLink_139 at h
  refine px_ld rfl rfl rfl rfl rfl ?_
  cases h
  exact px_iret rfl (Or.inl rfl) rfl ⟨rfl, rfl⟩
def f_H_runLink_63 (F : Nat) (c : px_CT) (a0 : Nat) (a2 : Int32) (ph : px_H) : Option (Int32 × px_H) :=
  (xgR ph 0 11 a0).bind fun t1 =>
  (xpI ph 3 18 t1 a2).bind fun ph2 =>
  if a2 = 0 then
    (xgR ph2 0 1 a0).bind fun t10 =>
    (xo ph2 10 t10).bind fun _ =>
    xb (f_Row_clear F c t10 ph2) fun _ ph11 =>
    (xgR ph11 0 1 a0).bind fun t12 =>
    (xgR ph11 0 14 a0).bind fun t13 =>
    (xgR ph11 1 4 t13).bind fun t14 =>
    (xgR ph11 10 0 t14).bind fun t15 =>
    (xgR ph11 0 14 a0).bind fun t16 =>
    (xgR ph11 1 4 t16).bind fun t17 =>
    (xgI ph11 10 1 t17).bind fun t18 =>
    (xo ph11 10 t12).bind fun _ =>
    xb (f_Row_copy F c t12 t15 (nI 0) t18 ph11) fun _ ph19 =>
    f_H_runLink_139 F c a2 ph19
  else
    if (nI 3) ≤ a2 then
      f_H_runLink_139 F c a2 ph2
    else
      (xgR ph2 0 1 a0).bind fun t3 =>
      (xo ph2 10 t3).bind fun _ =>
      xb (f_Row_clear F c t3 ph2) fun _ ph4 =>
      (xgR ph4 0 11 a0).bind fun t5 =>
      (xgN ph4 3 13 t5).bind fun t6 =>
      (xgR ph4 0 1 a0).bind fun t7 =>
      (t6).bind fun p8 =>
      (xo ph4 5 p8).bind fun _ =>
      xb (f_Name_writeTo F c p8 t7 ph4) fun _ ph9 =>
      f_H_runLink_139 F c a2 ph9
theorem r_H_runLink_63 {l : Launch} {g : px_G} {d F : Nat} {a0 : Nat} {a2 : Int32} {ph : px_H} {r : Int32} {ph' : px_H} (h : f_H_runLink_63 F (px_ct g) a0 a2 ph = some (r, ph')) : PW l g (d + 8) m_H_runLink 63 [.ref a0, px_u, .int a2] [] ph (px_qI r ph') := by
  unfold f_H_runLink_63 at h
  refine px_ld rfl rfl rfl rfl rfl ?_
  obtain ⟨t1, h0, h⟩ := xs_some h
  obtain ⟨fs, e1, e2⟩ := xgR_some h0
  refine px_get rfl e1 e2 rfl ?_
  refine px_ld rfl rfl rfl rfl rfl ?_
  obtain ⟨ph2, h0, h⟩ := xs_some h
  obtain ⟨fs, e1, e2, e3⟩ := xpI_some h0
  subst e3
  refine px_put rfl e1 e2 trivial rfl ?_
  refine px_ld rfl rfl rfl rfl rfl ?_
  refine px_ifne rfl (by decide) rfl (fun hc => ?_) (fun hc => ?_)
  · replace h := (if_neg hc).symm.trans h
    refine px_ld rfl rfl rfl rfl rfl ?_
    refine px_ic (k := 3) rfl rfl rfl ?_
    refine px_icge rfl (by decide) rfl (fun hc => ?_) (fun hc => ?_)
    · replace h := (if_pos hc).symm.trans h
      refine px_forget (n := 0) (lv' := [_, _, _]) rfl ?_
      exact (r_H_runLink_139 h :)
    · replace h := (if_neg hc).symm.trans h
      refine px_ld rfl rfl rfl rfl rfl ?_
      obtain ⟨t3, h0, h⟩ := xs_some h
      obtain ⟨fs, e1, e2⟩ := xgR_some h0
      refine px_get rfl e1 e2 rfl ?_
      obtain ⟨fs, h0, h⟩ := xs_some h
      have e1 := xo_some h0
      obtain ⟨u0, ph4, h0, h⟩ := xb_some h
      refine px_cV0 rfl rfl e1 rfl rfl rfl rfl rfl rfl rfl (r_Row_clear h0 :) (fun _ _ q => nomatch q.2) (fun r ph' q => ?_)
      obtain ⟨rfl, q⟩ := q
      cases q
      refine px_ld rfl rfl rfl rfl rfl ?_
      obtain ⟨t5, h0, h⟩ := xs_some h
      obtain ⟨fs, e1, e2⟩ := xgR_some h0
      refine px_get rfl e1 e2 rfl ?_
      obtain ⟨t6, h0, h⟩ := xs_some h
      obtain ⟨fs, e1, e2⟩ := xgN_some h0
      refine px_get rfl e1 e2 rfl ?_
      refine px_ld rfl rfl rfl rfl rfl ?_
      obtain ⟨t7, h0, h⟩ := xs_some h
      obtain ⟨fs, e1, e2⟩ := xgR_some h0
      refine px_get rfl e1 e2 rfl ?_
      obtain ⟨p8, h0, h⟩ := xs_some h
      revert h
      subst h0
      intro h
      obtain ⟨fs, h0, h⟩ := xs_some h
      have e1 := xo_some h0
      obtain ⟨u0, ph9, h0, h⟩ := xb_some h
      refine px_cV1 rfl rfl e1 rfl rfl rfl rfl rfl rfl rfl (r_Name_writeTo h0 :) (fun _ _ q => nomatch q.2) (fun r ph' q => ?_)
      obtain ⟨rfl, q⟩ := q
      cases q
      refine px_forget (n := 0) (lv' := [_, _, _]) rfl ?_
      exact (r_H_runLink_139 h :)
  · replace h := (if_pos hc).symm.trans h
    refine px_ld rfl rfl rfl rfl rfl ?_
    obtain ⟨t10, h0, h⟩ := xs_some h
    obtain ⟨fs, e1, e2⟩ := xgR_some h0
    refine px_get rfl e1 e2 rfl ?_
    obtain ⟨fs, h0, h⟩ := xs_some h
    have e1 := xo_some h0
    obtain ⟨u0, ph11, h0, h⟩ := xb_some h
    refine px_cV0 rfl rfl e1 rfl rfl rfl rfl rfl rfl rfl (r_Row_clear h0 :) (fun _ _ q => nomatch q.2) (fun r ph' q => ?_)
    obtain ⟨rfl, q⟩ := q
    cases q
    refine px_ld rfl rfl rfl rfl rfl ?_
    obtain ⟨t12, h0, h⟩ := xs_some h
    obtain ⟨fs, e1, e2⟩ := xgR_some h0
    refine px_get rfl e1 e2 rfl ?_
    refine px_ld rfl rfl rfl rfl rfl ?_
    obtain ⟨t13, h0, h⟩ := xs_some h
    obtain ⟨fs, e1, e2⟩ := xgR_some h0
    refine px_get rfl e1 e2 rfl ?_
    obtain ⟨t14, h0, h⟩ := xs_some h
    obtain ⟨fs, e1, e2⟩ := xgR_some h0
    refine px_get rfl e1 e2 rfl ?_
    obtain ⟨t15, h0, h⟩ := xs_some h
    obtain ⟨fs, e1, e2⟩ := xgR_some h0
    refine px_get rfl e1 e2 rfl ?_
    refine px_ic (k := 0) rfl rfl rfl ?_
    refine px_ld rfl rfl rfl rfl rfl ?_
    obtain ⟨t16, h0, h⟩ := xs_some h
    obtain ⟨fs, e1, e2⟩ := xgR_some h0
    refine px_get rfl e1 e2 rfl ?_
    obtain ⟨t17, h0, h⟩ := xs_some h
    obtain ⟨fs, e1, e2⟩ := xgR_some h0
    refine px_get rfl e1 e2 rfl ?_
    obtain ⟨t18, h0, h⟩ := xs_some h
    obtain ⟨fs, e1, e2⟩ := xgI_some h0
    refine px_get rfl e1 e2 rfl ?_
    obtain ⟨fs, h0, h⟩ := xs_some h
    have e1 := xo_some h0
    obtain ⟨u0, ph19, h0, h⟩ := xb_some h
    refine px_cV3 rfl rfl e1 rfl rfl rfl rfl rfl rfl rfl (r_Row_copy h0 :) (fun _ _ q => nomatch q.2) (fun r ph' q => ?_)
    obtain ⟨rfl, q⟩ := q
    cases q
    refine px_goto rfl (by decide) rfl ?_
    refine px_forget (n := 0) (lv' := [_, _, _]) rfl ?_
    exact (r_H_runLink_139 h :)
def f_H_runLink_62 (F : Nat) (c : px_CT) (a0 : Nat) (s0 : Int32) (ph : px_H) : Option (Int32 × px_H) :=
  f_H_runLink_63 F c a0 s0 ph
theorem r_H_runLink_62 {l : Launch} {g : px_G} {d F : Nat} {a0 : Nat} {s0 : Int32} {ph : px_H} {r : Int32} {ph' : px_H} (h : f_H_runLink_62 F (px_ct g) a0 s0 ph = some (r, ph')) : PW l g (d + 8) m_H_runLink 62 [.ref a0, px_u, px_u] [.int s0] ph (px_qI r ph') := by
  unfold f_H_runLink_62 at h
  refine px_st (lv' := [_, _, _]) rfl rfl rfl rfl rfl rfl rfl ?_
  exact (r_H_runLink_63 h :)
def f_H_runLink_36 (F : Nat) (c : px_CT) (a0 : Nat) (a2 : Int32) (ph : px_H) : Option (Int32 × px_H) :=
  if a2 = 0 then
    (xgR ph 0 14 a0).bind fun t1 =>
    (xo ph 1 t1).bind fun _ =>
    xb (f_Filler_write F c t1 ph) fun _ ph2 =>
    (xgR ph2 0 14 a0).bind fun t3 =>
    (xo ph2 1 t3).bind fun _ =>
    xb (f_Filler_fillSites F c t3 ph2) fun t4 ph5 =>
    if t4 = 0 then
      f_H_runLink_62 F c a0 (nI 4) ph5
    else
      f_H_runLink_62 F c a0 (nI 0) ph5
  else
    f_H_runLink_63 F c a0 a2 ph
theorem r_H_runLink_36 {l : Launch} {g : px_G} {d F : Nat} {a0 : Nat} {a2 : Int32} {ph : px_H} {r : Int32} {ph' : px_H} (h : f_H_runLink_36 F (px_ct g) a0 a2 ph = some (r, ph')) : PW l g (d + 8) m_H_runLink 36 [.ref a0, px_u, .int a2] [] ph (px_qI r ph') := by
  unfold f_H_runLink_36 at h
  refine px_ld rfl rfl rfl rfl rfl ?_
  refine px_ifne rfl (by decide) rfl (fun hc => ?_) (fun hc => ?_)
  · replace h := (if_neg hc).symm.trans h
    exact (r_H_runLink_63 h :)
  · replace h := (if_pos hc).symm.trans h
    refine px_ld rfl rfl rfl rfl rfl ?_
    obtain ⟨t1, h0, h⟩ := xs_some h
    obtain ⟨fs, e1, e2⟩ := xgR_some h0
    refine px_get rfl e1 e2 rfl ?_
    obtain ⟨fs, h0, h⟩ := xs_some h
    have e1 := xo_some h0
    obtain ⟨u0, ph2, h0, h⟩ := xb_some h
    refine px_cV0 rfl rfl e1 rfl rfl rfl rfl rfl rfl rfl (r_Filler_write h0 :) (fun _ _ q => nomatch q.2) (fun r ph' q => ?_)
    obtain ⟨rfl, q⟩ := q
    cases q
    refine px_ld rfl rfl rfl rfl rfl ?_
    obtain ⟨t3, h0, h⟩ := xs_some h
    obtain ⟨fs, e1, e2⟩ := xgR_some h0
    refine px_get rfl e1 e2 rfl ?_
    obtain ⟨fs, h0, h⟩ := xs_some h
    have e1 := xo_some h0
    obtain ⟨t4, ph5, h0, h⟩ := xb_some h
    refine px_cV0 rfl rfl e1 rfl rfl rfl rfl rfl rfl rfl (r_Filler_fillSites h0 :) (fun _ _ q => nomatch q.2) (fun r ph' q => ?_)
    obtain ⟨rfl, q⟩ := q
    cases q
    refine px_ifeq rfl (by decide) rfl (fun hc => ?_) (fun hc => ?_)
    · replace h := (if_pos hc).symm.trans h
      refine px_ic (k := 4) rfl rfl rfl ?_
      refine px_forget (n := 2) (lv' := [_, _, _]) rfl ?_
      exact (r_H_runLink_62 h :)
    · replace h := (if_neg hc).symm.trans h
      refine px_ic (k := 0) rfl rfl rfl ?_
      refine px_goto rfl (by decide) rfl ?_
      refine px_forget (n := 2) (lv' := [_, _, _]) rfl ?_
      exact (r_H_runLink_62 h :)
def f_H_runLink_35 (F : Nat) (c : px_CT) (a0 : Nat) (s0 : Int32) (ph : px_H) : Option (Int32 × px_H) :=
  f_H_runLink_36 F c a0 s0 ph
theorem r_H_runLink_35 {l : Launch} {g : px_G} {d F : Nat} {a0 : Nat} {s0 : Int32} {ph : px_H} {r : Int32} {ph' : px_H} (h : f_H_runLink_35 F (px_ct g) a0 s0 ph = some (r, ph')) : PW l g (d + 8) m_H_runLink 35 [.ref a0, px_u, px_u] [.int s0] ph (px_qI r ph') := by
  unfold f_H_runLink_35 at h
  refine px_st (lv' := [_, _, _]) rfl rfl rfl rfl rfl rfl rfl ?_
  exact (r_H_runLink_36 h :)
def f_H_runLink (F : Nat) (c : px_CT) (a0 : Nat) (a1 : Int32) (ph : px_H) : Option (Int32 × px_H) :=
  (xgR ph 0 11 a0).bind fun t1 =>
  (xo ph 3 t1).bind fun _ =>
  xb (f_Link_resolve F c t1 a1 ph) fun t2 ph3 =>
  if t2 = 0 then
    (xgR ph3 0 13 a0).bind fun t4 =>
    (xo ph3 2 t4).bind fun _ =>
    xb (f_Layout_lay F c t4 ph3) fun _ ph5 =>
    (xgR ph5 0 13 a0).bind fun t6 =>
    (xo ph5 2 t6).bind fun _ =>
    xb (f_Layout_isTooLarge F c t6 ph5) fun t7 ph8 =>
    if t7 = 0 then
      f_H_runLink_35 F c a0 (nI 0) ph8
    else
      f_H_runLink_35 F c a0 (nI 3) ph8
  else
    f_H_runLink_36 F c a0 t2 ph3
theorem r_H_runLink {l : Launch} {g : px_G} {d F : Nat} {a0 : Nat} {a1 : Int32} {ph : px_H} {r : Int32} {ph' : px_H} (h : f_H_runLink F (px_ct g) a0 a1 ph = some (r, ph')) : PW l g (d + 8) m_H_runLink 0 [.ref a0, .int a1, px_u] [] ph (px_qI r ph') := by
  unfold f_H_runLink at h
  refine px_ld rfl rfl rfl rfl rfl ?_
  obtain ⟨t1, h0, h⟩ := xs_some h
  obtain ⟨fs, e1, e2⟩ := xgR_some h0
  refine px_get rfl e1 e2 rfl ?_
  refine px_ld rfl rfl rfl rfl rfl ?_
  obtain ⟨fs, h0, h⟩ := xs_some h
  have e1 := xo_some h0
  obtain ⟨t2, ph3, h0, h⟩ := xb_some h
  refine px_cV1 rfl rfl e1 rfl rfl rfl rfl rfl rfl rfl (r_Link_resolve h0 :) (fun _ _ q => nomatch q.2) (fun r ph' q => ?_)
  obtain ⟨rfl, q⟩ := q
  cases q
  refine px_st (lv' := [_, _, _]) rfl rfl rfl rfl rfl rfl rfl ?_
  refine px_ld rfl rfl rfl rfl rfl ?_
  refine px_ifne rfl (by decide) rfl (fun hc => ?_) (fun hc => ?_)
  · replace h := (if_neg hc).symm.trans h
    refine px_forget (n := 1) (lv' := [_, _, _]) rfl ?_
    exact (r_H_runLink_36 h :)
  · replace h := (if_pos hc).symm.trans h
    refine px_ld rfl rfl rfl rfl rfl ?_
    obtain ⟨t4, h0, h⟩ := xs_some h
    obtain ⟨fs, e1, e2⟩ := xgR_some h0
    refine px_get rfl e1 e2 rfl ?_
    obtain ⟨fs, h0, h⟩ := xs_some h
    have e1 := xo_some h0
    obtain ⟨u0, ph5, h0, h⟩ := xb_some h
    refine px_cV0 rfl rfl e1 rfl rfl rfl rfl rfl rfl rfl (r_Layout_lay h0 :) (fun _ _ q => nomatch q.2) (fun r ph' q => ?_)
    obtain ⟨rfl, q⟩ := q
    cases q
    refine px_ld rfl rfl rfl rfl rfl ?_
    obtain ⟨t6, h0, h⟩ := xs_some h
    obtain ⟨fs, e1, e2⟩ := xgR_some h0
    refine px_get rfl e1 e2 rfl ?_
    obtain ⟨fs, h0, h⟩ := xs_some h
    have e1 := xo_some h0
    obtain ⟨t7, ph8, h0, h⟩ := xb_some h
    refine px_cV0 rfl rfl e1 rfl rfl rfl rfl rfl rfl rfl (r_Layout_isTooLarge h0 :) (fun _ _ q => nomatch q.2) (fun r ph' q => ?_)
    obtain ⟨rfl, q⟩ := q
    cases q
    refine px_ifeq rfl (by decide) rfl (fun hc => ?_) (fun hc => ?_)
    · replace h := (if_pos hc).symm.trans h
      refine px_ic (k := 0) rfl rfl rfl ?_
      refine px_forget (n := 1) (lv' := [_, _, _]) rfl ?_
      refine px_forget (n := 2) (lv' := [_, _, _]) rfl ?_
      exact (r_H_runLink_35 h :)
    · replace h := (if_neg hc).symm.trans h
      refine px_ic (k := 3) rfl rfl rfl ?_
      refine px_goto rfl (by decide) rfl ?_
      refine px_forget (n := 1) (lv' := [_, _, _]) rfl ?_
      refine px_forget (n := 2) (lv' := [_, _, _]) rfl ?_
      exact (r_H_runLink_35 h :)
def f_H_link (F : Nat) (c : px_CT) (a0 : Nat) (a1 : Int32) (ph : px_H) : Option (Int32 × px_H) :=
  (xo ph 0 a0).bind fun _ =>
  xb (f_H_runLink F c a0 a1 ph) fun t1 ph2 =>
  some (t1, ph2)
theorem r_H_link {l : Launch} {g : px_G} {d F : Nat} {a0 : Nat} {a1 : Int32} {ph : px_H} {r : Int32} {ph' : px_H} (h : f_H_link F (px_ct g) a0 a1 ph = some (r, ph')) : PW l g (d + 9) m_H_link 0 [.ref a0, .int a1] [] ph (px_qI r ph') := by
  unfold f_H_link at h
  refine px_ld rfl rfl rfl rfl rfl ?_
  refine px_ld rfl rfl rfl rfl rfl ?_
  obtain ⟨fs, h0, h⟩ := xs_some h
  have e1 := xo_some h0
  obtain ⟨t1, ph2, h0, h⟩ := xb_some h
  refine px_cV1 rfl rfl e1 rfl rfl rfl rfl rfl rfl rfl (r_H_runLink h0 :) (fun _ _ q => nomatch q.2) (fun r ph' q => ?_)
  obtain ⟨rfl, q⟩ := q
  cases q
  cases h
  exact px_iret rfl (Or.inl rfl) rfl ⟨rfl, rfl⟩
