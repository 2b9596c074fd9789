/-! methods as functions: LinkHouse -/
def f_Scribe_numberParts_106 (F : Nat) (c : px_CT) (a0 : Nat) (a1 : Int32) (ph : px_H) : Option (Int32 × px_H) :=
  (xpI ph 11 8 a0 a1).bind fun ph1 =>
  some (a1 + (nI 2), ph1)
theorem r_Scribe_numberParts_106 {l : Launch} {g : px_G} {d F : Nat} {a0 : Nat} {a1 : Int32} {ph : px_H} {r : Int32} {ph' : px_H} (h : f_Scribe_numberParts_106 F (px_ct g) a0 a1 ph = some (r, ph')) : PW l g (d + 4) m_Scribe_numberParts 106 [.ref a0, .int a1, px_u, px_u, px_u] [] ph (px_qI r ph') := by
  unfold f_Scribe_numberParts_106 at h
  refine px_ld rfl rfl rfl rfl rfl ?_
  refine px_ld rfl rfl rfl rfl rfl ?_
  obtain ⟨ph1, h0, h⟩ := xs_some h
  obtain ⟨fs, e1, e2, e3⟩ := xpI_some h0
  subst e3
  refine px_put rfl e1 e2 trivial rfl ?_
  refine px_ld rfl rfl rfl rfl rfl ?_
  refine px_ic (k := 2) rfl rfl rfl ?_
  refine px_alu rfl rfl rfl ?_
  cases h
  exact px_iret rfl (Or.inl rfl) rfl ⟨rfl, rfl⟩
def f_Scribe_numberParts_100 (F : Nat) (c : px_CT) (k4 : Nat → Int32 → Int32 → px_H → Option (Int32 × px_H)) (a0 : Nat) (a1 : Int32) (a2 : Int32) (ph : px_H) : Option (Int32 × px_H) :=
  k4 a0 a1 (a2 + nI 1) ph
theorem r_Scribe_numberParts_100 {l : Launch} {g : px_G} {d F : Nat} {k4 : Nat → Int32 → Int32 → px_H → Option (Int32 × px_H)} (hk4 : ∀ {a0 : Nat} {a1 : Int32} {a2 : Int32} {ph : px_H} {r : Int32} {ph' : px_H}, k4 a0 a1 a2 ph = some (r, ph') → PW l g (d + 4) m_Scribe_numberParts 4 [.ref a0, .int a1, .int a2, px_u, px_u] [] ph (px_qI r ph')) {a0 : Nat} {a1 : Int32} {a2 : Int32} {ph : px_H} {r : Int32} {ph' : px_H} (h : f_Scribe_numberParts_100 F (px_ct g) k4 a0 a1 a2 ph = some (r, ph')) : PW l g (d + 4) m_Scribe_numberParts 100 [.ref a0, .int a1, .int a2, px_u, px_u] [] ph (px_qI r ph') := by
  unfold f_Scribe_numberParts_100 at h
  refine px_iinc (lv' := [_, _, _, _, _]) rfl rfl rfl rfl rfl rfl ?_
  refine px_goto rfl (by decide) rfl ?_
  exact (hk4 h :)
def f_Scribe_numberParts_92 (F : Nat) (c : px_CT) (k4 : Nat → Int32 → Int32 → px_H → Option (Int32 × px_H)) (k59 : Nat → Int32 → Int32 → Int32 → px_H → Option (Int32 × px_H)) (a0 : Nat) (a2 : Int32) (a3 : Int32) (s0 : Int32) (s1 : Int32) (ph : px_H) : Option (Int32 × px_H) :=
  k59 a0 (s0 + s1) a2 (a3 + nI 1) ph
theorem r_Scribe_numberParts_92 {l : Launch} {g : px_G} {d F : Nat} {k4 : Nat → Int32 → Int32 → px_H → Option (Int32 × px_H)} (hk4 : ∀ {a0 : Nat} {a1 : Int32} {a2 : Int32} {ph : px_H} {r : Int32} {ph' : px_H}, k4 a0 a1 a2 ph = some (r, ph') → PW l g (d + 4) m_Scribe_numberParts 4 [.ref a0, .int a1, .int a2, px_u, px_u] [] ph (px_qI r ph')) {k59 : Nat → Int32 → Int32 → Int32 → px_H → Option (Int32 × px_H)} (hk59 : ∀ {a0 : Nat} {a1 : Int32} {a2 : Int32} {a3 : Int32} {ph : px_H} {r : Int32} {ph' : px_H}, k59 a0 a1 a2 a3 ph = some (r, ph') → PW l g (d + 4) m_Scribe_numberParts 59 [.ref a0, .int a1, .int a2, .int a3, px_u] [] ph (px_qI r ph')) {a0 : Nat} {a2 : Int32} {a3 : Int32} {s0 : Int32} {s1 : Int32} {ph : px_H} {r : Int32} {ph' : px_H} (h : f_Scribe_numberParts_92 F (px_ct g) k4 k59 a0 a2 a3 s0 s1 ph = some (r, ph')) : PW l g (d + 4) m_Scribe_numberParts 92 [.ref a0, px_u, .int a2, .int a3, px_u] [.int s1, .int s0] ph (px_qI r ph') := by
  unfold f_Scribe_numberParts_92 at h
  refine px_alu rfl rfl rfl ?_
  refine px_st (lv' := [_, _, _, _, _]) rfl rfl rfl rfl rfl rfl rfl ?_
  refine px_iinc (lv' := [_, _, _, _, _]) rfl rfl rfl rfl rfl rfl ?_
  refine px_goto rfl (by decide) rfl ?_
  exact (hk59 h :)
def f_Scribe_numberParts_59 (F : Nat) (c : px_CT) (k4 : Nat → Int32 → Int32 → px_H → Option (Int32 × px_H)) : Nat → Nat → Int32 → Int32 → Int32 → px_H → Option (Int32 × px_H)
  | 0, _, _, _, _, _ => none
  | n + 1, a0, a1, a2, a3, ph =>
    (xgR ph 11 0 a0).bind fun t1 =>
    (xo ph 3 t1).bind fun _ =>
    xb (f_Link_object F c t1 a2 ph) fun t2 ph3 =>
    (t2).bind fun p4 =>
    (xgI ph3 7 8 p4).bind fun t5 =>
    if t5 ≤ a3 then
      f_Scribe_numberParts_100 F c k4 a0 a1 a2 ph3
    else
      (xgR ph3 11 0 a0).bind fun t6 =>
      (xo ph3 3 t6).bind fun _ =>
      xb (f_Link_stayingTarget F c t6 a2 a3 ph3) fun t7 ph8 =>
      (match t7 with
        | none => f_Scribe_numberParts_92 F c k4 (f_Scribe_numberParts_59 F c k4 n) a0 a2 a3 a1 (nI 0) ph8
        | some p9 => f_Scribe_numberParts_92 F c k4 (f_Scribe_numberParts_59 F c k4 n) a0 a2 a3 a1 (nI 1) ph8)
theorem r_Scribe_numberParts_59 {l : Launch} {g : px_G} {d F : Nat} {k4 : Nat → Int32 → Int32 → px_H → Option (Int32 × px_H)} (hk4 : ∀ {a0 : Nat} {a1 : Int32} {a2 : Int32} {ph : px_H} {r : Int32} {ph' : px_H}, k4 a0 a1 a2 ph = some (r, ph') → PW l g (d + 4) m_Scribe_numberParts 4 [.ref a0, .int a1, .int a2, px_u, px_u] [] ph (px_qI r ph')) : ∀ (n : Nat) {a0 : Nat} {a1 : Int32} {a2 : Int32} {a3 : Int32} {ph : px_H} {r : Int32} {ph' : px_H}, f_Scribe_numberParts_59 F (px_ct g) k4 n a0 a1 a2 a3 ph = some (r, ph') → PW l g (d + 4) m_Scribe_numberParts 59 [.ref a0, .int a1, .int a2, .int a3, px_u] [] ph (px_qI r ph') := by
  intro n
  induction n with
  | zero => intro _ _ _ _ _ _ _ h; cases h
  | succ n ih =>
    intro a0 a1 a2 a3 ph r ph' h
    unfold f_Scribe_numberParts_59 at h
    refine px_ld rfl rfl rfl rfl rfl ?_
    refine px_ld rfl rfl rfl rfl rfl ?_
    obtain ⟨t1, h0, h⟩ := xs_some h
    obtain ⟨fs, e1, e2⟩ := xgR_some h0
    refine px_get rfl e1 e2 rfl ?_
    refine px_ld rfl rfl rfl rfl rfl ?_
    obtain ⟨fs, h0, h⟩ := xs_some h
    have e1 := xo_some h0
    obtain ⟨t2, ph3, h0, h⟩ := xb_some h
    refine px_cV1 rfl rfl e1 rfl rfl rfl rfl rfl rfl rfl (r_Link_object h0 :) (fun _ _ q => nomatch q.2) (fun r ph' q => ?_)
    obtain ⟨rfl, q⟩ := q
    cases q
    obtain ⟨p4, h0, h⟩ := xs_some h
    revert h
    subst h0
    intro h
    obtain ⟨t5, h0, h⟩ := xs_some h
    obtain ⟨fs, e1, e2⟩ := xgI_some h0
    refine px_get rfl e1 e2 rfl ?_
    refine px_icge rfl (by decide) rfl (fun hc => ?_) (fun hc => ?_)
    · replace h := (if_pos hc).symm.trans h
      refine px_forget (n := 3) (lv' := [_, _, _, _, _]) rfl ?_
      exact (r_Scribe_numberParts_100 @hk4 h :)
    · replace h := (if_neg hc).symm.trans h
      refine px_ld rfl rfl rfl rfl rfl ?_
      refine px_ld rfl rfl rfl rfl rfl ?_
      obtain ⟨t6, h0, h⟩ := xs_some h
      obtain ⟨fs, e1, e2⟩ := xgR_some h0
      refine px_get rfl e1 e2 rfl ?_
      refine px_ld rfl rfl rfl rfl rfl ?_
      refine px_ld rfl rfl rfl rfl rfl ?_
      obtain ⟨fs, h0, h⟩ := xs_some h
      have e1 := xo_some h0
      obtain ⟨t7, ph8, h0, h⟩ := xb_some h
      refine px_cV2 rfl rfl e1 rfl rfl rfl rfl rfl rfl rfl (r_Link_stayingTarget h0 :) (fun _ _ q => nomatch q.2) (fun r ph' q => ?_)
      obtain ⟨rfl, q⟩ := q
      cases q
      cases t7 with
      | none =>
        refine px_ifnnN rfl rfl ?_
        refine px_ic (k := 0) rfl rfl rfl ?_
        refine px_goto rfl (by decide) rfl ?_
        refine px_forget (n := 1) (lv' := [_, _, _, _, _]) rfl ?_
        exact (r_Scribe_numberParts_92 @hk4 @ih h :)
      | some p9 =>
        refine px_ifnnR rfl (by decide) rfl ?_
        refine px_ic (k := 1) rfl rfl rfl ?_
        refine px_forget (n := 1) (lv' := [_, _, _, _, _]) rfl ?_
        exact (r_Scribe_numberParts_92 @hk4 @ih h :)
def f_Scribe_numberParts_57 (F : Nat) (c : px_CT) (k4 : Nat → Int32 → Int32 → px_H → Option (Int32 × px_H)) (a0 : Nat) (a1 : Int32) (a2 : Int32) (ph : px_H) : Option (Int32 × px_H) :=
  f_Scribe_numberParts_59 F c k4 F a0 a1 a2 (nI 0) ph
theorem r_Scribe_numberParts_57 {l : Launch} {g : px_G} {d F : Nat} {k4 : Nat → Int32 → Int32 → px_H → Option (Int32 × px_H)} (hk4 : ∀ {a0 : Nat} {a1 : Int32} {a2 : Int32} {ph : px_H} {r : Int32} {ph' : px_H}, k4 a0 a1 a2 ph = some (r, ph') → PW l g (d + 4) m_Scribe_numberParts 4 [.ref a0, .int a1, .int a2, px_u, px_u] [] ph (px_qI r ph')) {a0 : Nat} {a1 : Int32} {a2 : Int32} {ph : px_H} {r : Int32} {ph' : px_H} (h : f_Scribe_numberParts_57 F (px_ct g) k4 a0 a1 a2 ph = some (r, ph')) : PW l g (d + 4) m_Scribe_numberParts 57 [.ref a0, .int a1, .int a2, px_u, px_u] [] ph (px_qI r ph') := by
  unfold f_Scribe_numberParts_57 at h
  refine px_ic (k := 0) rfl rfl rfl ?_
  refine px_st (lv' := [_, _, _, _, _]) rfl rfl rfl rfl rfl rfl rfl ?_
  exact (r_Scribe_numberParts_59 @hk4 _ h :)
def f_Scribe_numberParts_51 (F : Nat) (c : px_CT) (k4 : Nat → Int32 → Int32 → px_H → Option (Int32 × px_H)) (k17 : Nat → Int32 → Int32 → Int32 → px_H → Option (Int32 × px_H)) (a0 : Nat) (a1 : Int32) (a2 : Int32) (a3 : Int32) (ph : px_H) : Option (Int32 × px_H) :=
  k17 a0 a1 a2 (a3 + nI 1) ph
theorem r_Scribe_numberParts_51 {l : Launch} {g : px_G} {d F : Nat} {k4 : Nat → Int32 → Int32 → px_H → Option (Int32 × px_H)} (hk4 : ∀ {a0 : Nat} {a1 : Int32} {a2 : Int32} {ph : px_H} {r : Int32} {ph' : px_H}, k4 a0 a1 a2 ph = some (r, ph') → PW l g (d + 4) m_Scribe_numberParts 4 [.ref a0, .int a1, .int a2, px_u, px_u] [] ph (px_qI r ph')) {k17 : Nat → Int32 → Int32 → Int32 → px_H → Option (Int32 × px_H)} (hk17 : ∀ {a0 : Nat} {a1 : Int32} {a2 : Int32} {a3 : Int32} {ph : px_H} {r : Int32} {ph' : px_H}, k17 a0 a1 a2 a3 ph = some (r, ph') → PW l g (d + 4) m_Scribe_numberParts 17 [.ref a0, .int a1, .int a2, .int a3, px_u] [] ph (px_qI r ph')) {a0 : Nat} {a1 : Int32} {a2 : Int32} {a3 : Int32} {ph : px_H} {r : Int32} {ph' : px_H} (h : f_Scribe_numberParts_51 F (px_ct g) k4 k17 a0 a1 a2 a3 ph = some (r, ph')) : PW l g (d + 4) m_Scribe_numberParts 51 [.ref a0, .int a1, .int a2, .int a3, px_u] [] ph (px_qI r ph') := by
  unfold f_Scribe_numberParts_51 at h
  refine px_iinc (lv' := [_, _, _, _, _]) rfl rfl rfl rfl rfl rfl ?_
  refine px_goto rfl (by decide) rfl ?_
  exact (hk17 h :)
def f_Scribe_numberParts_17 (F : Nat) (c : px_CT) (k4 : Nat → Int32 → Int32 → px_H → Option (Int32 × px_H)) : Nat → Nat → Int32 → Int32 → Int32 → px_H → Option (Int32 × px_H)
  | 0, _, _, _, _, _ => none
  | n + 1, a0, a1, a2, a3, ph =>
    if (nI 24) ≤ a3 then
      f_Scribe_numberParts_57 F c k4 a0 a1 a2 ph
    else
      (xgR ph 11 0 a0).bind fun t1 =>
      (xo ph 3 t1).bind fun _ =>
      xb (f_Link_part F c t1 a2 a3 ph) fun t2 ph3 =>
      (t2).bind fun p4 =>
      (xgI ph3 8 9 p4).bind fun t5 =>
      if t5 = 0 then
        f_Scribe_numberParts_51 F c k4 (f_Scribe_numberParts_17 F c k4 n) a0 a1 a2 a3 ph3
      else
        (xpI ph3 8 12 p4 a1).bind fun ph6 =>
        f_Scribe_numberParts_51 F c k4 (f_Scribe_numberParts_17 F c k4 n) a0 (a1 + nI 1) a2 a3 ph6
theorem r_Scribe_numberParts_17 {l : Launch} {g : px_G} {d F : Nat} {k4 : Nat → Int32 → Int32 → px_H → Option (Int32 × px_H)} (hk4 : ∀ {a0 : Nat} {a1 : Int32} {a2 : Int32} {ph : px_H} {r : Int32} {ph' : px_H}, k4 a0 a1 a2 ph = some (r, ph') → PW l g (d + 4) m_Scribe_numberParts 4 [.ref a0, .int a1, .int a2, px_u, px_u] [] ph (px_qI r ph')) : ∀ (n : Nat) {a0 : Nat} {a1 : Int32} {a2 : Int32} {a3 : Int32} {ph : px_H} {r : Int32} {ph' : px_H}, f_Scribe_numberParts_17 F (px_ct g) k4 n a0 a1 a2 a3 ph = some (r, ph') → PW l g (d + 4) m_Scribe_numberParts 17 [.ref a0, .int a1, .int a2, .int a3, px_u] [] ph (px_qI r ph') := by
  intro n
  induction n with
  | zero => intro _ _ _ _ _ _ _ h; cases h
  | succ n ih =>
    intro a0 a1 a2 a3 ph r ph' h
    unfold f_Scribe_numberParts_17 at h
    refine px_ld rfl rfl rfl rfl rfl ?_
    refine px_ic (k := 24) rfl rfl rfl ?_
    refine px_icge rfl (by decide) rfl (fun hc => ?_) (fun hc => ?_)
    · replace h := (if_pos hc).symm.trans h
      refine px_forget (n := 3) (lv' := [_, _, _, _, _]) rfl ?_
      exact (r_Scribe_numberParts_57 @hk4 h :)
    · replace h := (if_neg hc).symm.trans h
      refine px_ld rfl rfl rfl rfl rfl ?_
      obtain ⟨t1, h0, h⟩ := xs_some h
      obtain ⟨fs, e1, e2⟩ := xgR_some h0
      refine px_get rfl e1 e2 rfl ?_
      refine px_ld rfl rfl rfl rfl rfl ?_
      refine px_ld rfl rfl rfl rfl rfl ?_
      obtain ⟨fs, h0, h⟩ := xs_some h
      have e1 := xo_some h0
      obtain ⟨t2, ph3, h0, h⟩ := xb_some h
      refine px_cV2 rfl rfl e1 rfl rfl rfl rfl rfl rfl rfl (r_Link_part h0 :) (fun _ _ q => nomatch q.2) (fun r ph' q => ?_)
      obtain ⟨rfl, q⟩ := q
      cases q
      refine px_st (lv' := [.ref a0, .int a1, .int a2, .int a3, va_rf t2]) rfl rfl (by first | rfl | (cases t2 <;> rfl)) (by first | rfl | (cases t2 <;> rfl)) rfl (by first | rfl | (cases t2 <;> rfl)) rfl ?_
      refine px_ld rfl rfl rfl (by first | rfl | (cases t2 <;> rfl)) rfl ?_
      obtain ⟨p4, h0, h⟩ := xs_some h
      revert h
      subst h0
      intro h
      obtain ⟨t5, h0, h⟩ := xs_some h
      obtain ⟨fs, e1, e2⟩ := xgI_some h0
      refine px_get rfl e1 e2 rfl ?_
      refine px_ifeq rfl (by decide) rfl (fun hc => ?_) (fun hc => ?_)
      · replace h := (if_pos hc).symm.trans h
        refine px_forget (n := 4) (lv' := [_, _, _, _, _]) rfl ?_
        exact (r_Scribe_numberParts_51 @hk4 @ih h :)
      · replace h := (if_neg hc).symm.trans h
        refine px_ld rfl rfl rfl rfl rfl ?_
        refine px_ld rfl rfl rfl rfl rfl ?_
        obtain ⟨ph6, h0, h⟩ := xs_some h
        obtain ⟨fs, e1, e2, e3⟩ := xpI_some h0
        subst e3
        refine px_put rfl e1 e2 trivial rfl ?_
        refine px_iinc (lv' := [_, _, _, _, _]) rfl rfl rfl rfl rfl rfl ?_
        refine px_forget (n := 4) (lv' := [_, _, _, _, _]) rfl ?_
        exact (r_Scribe_numberParts_51 @hk4 @ih h :)
def f_Scribe_numberParts_4 (F : Nat) (c : px_CT) : Nat → Nat → Int32 → Int32 → px_H → Option (Int32 × px_H)
  | 0, _, _, _, _ => none
  | n + 1, a0, a1, a2, ph =>
    (xgR ph 11 0 a0).bind fun t1 =>
    (xgI ph 3 14 t1).bind fun t2 =>
    if t2 ≤ a2 then
      f_Scribe_numberParts_106 F c a0 a1 ph
    else
      f_Scribe_numberParts_17 F c (f_Scribe_numberParts_4 F c n) F a0 a1 a2 (nI 0) ph
theorem r_Scribe_numberParts_4 {l : Launch} {g : px_G} {d F : Nat} : ∀ (n : Nat) {a0 : Nat} {a1 : Int32} {a2 : Int32} {ph : px_H} {r : Int32} {ph' : px_H}, f_Scribe_numberParts_4 F (px_ct g) n a0 a1 a2 ph = some (r, ph') → PW l g (d + 4) m_Scribe_numberParts 4 [.ref a0, .int a1, .int a2, px_u, px_u] [] ph (px_qI r ph') := by
  intro n
  induction n with
  | zero => intro _ _ _ _ _ _ h; cases h
  | succ n ih =>
    intro a0 a1 a2 ph r ph' h
    unfold f_Scribe_numberParts_4 at h
    refine px_ld rfl rfl rfl rfl rfl ?_
    refine px_ld rfl rfl rfl rfl rfl ?_
    obtain ⟨t1, h0, h⟩ := xs_some h
    obtain ⟨fs, e1, e2⟩ := xgR_some h0
    refine px_get rfl e1 e2 rfl ?_
    obtain ⟨t2, h0, h⟩ := xs_some h
    obtain ⟨fs, e1, e2⟩ := xgI_some h0
    refine px_get rfl e1 e2 rfl ?_
    refine px_icge rfl (by decide) rfl (fun hc => ?_) (fun hc => ?_)
    · replace h := (if_pos hc).symm.trans h
      refine px_forget (n := 2) (lv' := [_, _, _, _, _]) rfl ?_
      exact (r_Scribe_numberParts_106 h :)
    · replace h := (if_neg hc).symm.trans h
      refine px_ic (k := 0) rfl rfl rfl ?_
      refine px_st (lv' := [_, _, _, _, _]) rfl rfl rfl rfl rfl rfl rfl ?_
      exact (r_Scribe_numberParts_17 @ih _ h :)
def f_Scribe_numberParts (F : Nat) (c : px_CT) (a0 : Nat) (ph : px_H) : Option (Int32 × px_H) :=
  f_Scribe_numberParts_4 F c F a0 (nI 1) (nI 0) ph
theorem r_Scribe_numberParts {l : Launch} {g : px_G} {d F : Nat} {a0 : Nat} {ph : px_H} {r : Int32} {ph' : px_H} (h : f_Scribe_numberParts F (px_ct g) a0 ph = some (r, ph')) : PW l g (d + 4) m_Scribe_numberParts 0 [.ref a0, px_u, px_u, px_u, px_u] [] ph (px_qI r ph') := by
  unfold f_Scribe_numberParts at h
  refine px_ic (k := 1) rfl rfl rfl ?_
  refine px_st (lv' := [_, _, _, _, _]) rfl rfl rfl rfl rfl rfl rfl ?_
  refine px_ic (k := 0) rfl rfl rfl ?_
  refine px_st (lv' := [_, _, _, _, _]) rfl rfl rfl rfl rfl rfl rfl ?_
  exact (r_Scribe_numberParts_4 _ h :)
def f_Scribe_listName_47 (F : Nat) (c : px_CT) (a0 : Nat) (ph : px_H) : Option (Unit × px_H) :=
  (xgI ph 11 6 a0).bind fun t1 =>
  (xpI ph 11 6 a0 (t1 + (nI 1))).bind fun ph2 =>
  some ((), ph2)
theorem r_Scribe_listName_47 {l : Launch} {g : px_G} {d F : Nat} {a0 : Nat} {ph : px_H} {r : Unit} {ph' : px_H} (h : f_Scribe_listName_47 F (px_ct g) a0 ph = some (r, ph')) : PW l g (d + 0) m_Scribe_listName 47 [.ref a0, px_u] [] ph (px_qV r ph') := by
  unfold f_Scribe_listName_47 at h
  refine px_ld rfl rfl rfl rfl rfl ?_
  refine px_alu rfl rfl rfl ?_
  obtain ⟨t1, h0, h⟩ := xs_some h
  obtain ⟨fs, e1, e2⟩ := xgI_some h0
  refine px_get rfl e1 e2 rfl ?_
  refine px_ic (k := 1) rfl rfl rfl ?_
  refine px_alu rfl rfl rfl ?_
  obtain ⟨ph2, h0, h⟩ := xs_some h
  obtain ⟨fs, e1, e2, e3⟩ := xpI_some h0
  subst e3
  refine px_put rfl e1 e2 trivial rfl ?_
  cases h
  exact px_vret rfl rfl rfl ⟨rfl, rfl⟩
def f_Scribe_listName_11 (F : Nat) (c : px_CT) (ph : px_H) : Option (Unit × px_H) :=
  some ((), ph)
theorem r_Scribe_listName_11 {l : Launch} {g : px_G} {d F : Nat} {ph : px_H} {r : Unit} {ph' : px_H} (h : f_Scribe_listName_11 F (px_ct g) ph = some (r, ph')) : PW l g (d + 0) m_Scribe_listName 11 [px_u, px_u] [] ph (px_qV r ph') := by
  unfold f_Scribe_listName_11 at h
  cases h
  exact px_vret rfl rfl rfl ⟨rfl, rfl⟩
def f_Scribe_listName (F : Nat) (c : px_CT) (a0 : Nat) (a1 : Option Nat) (ph : px_H) : Option (Unit × px_H) :=
  (match a1 with
    | none => f_Scribe_listName_11 F c ph
    | some p1 => (xgI ph 5 17 p1).bind fun t2 =>
    if t2 = 0 then
      (xgI ph 11 7 a0).bind fun t3 =>
      (xgI ph 11 6 a0).bind fun t4 =>
      (xpI ph 5 17 p1 (t3 + t4)).bind fun ph5 =>
      (xgI ph5 11 6 a0).bind fun t6 =>
      (xgR ph5 11 5 a0).bind fun t7 =>
      (xal ph5 5 t7).bind fun t8 =>
      if t8 ≤ t6 then
        f_Scribe_listName_47 F c a0 ph5
      else
        (xgR ph5 11 5 a0).bind fun t9 =>
        (xgI ph5 11 6 a0).bind fun t10 =>
        (xsO ph5 5 5 t9 t10 (some p1)).bind fun ph11 =>
        f_Scribe_listName_47 F c a0 ph11
    else
      f_Scribe_listName_11 F c ph)
theorem r_Scribe_listName {l : Launch} {g : px_G} {d F : Nat} {a0 : Nat} {a1 : Option Nat} {ph : px_H} {r : Unit} {ph' : px_H} (h : f_Scribe_listName F (px_ct g) a0 a1 ph = some (r, ph')) : PW l g (d + 0) m_Scribe_listName 0 [.ref a0, va_rf a1] [] ph (px_qV r ph') := by
  unfold f_Scribe_listName at h
  refine px_ld rfl rfl rfl (by first | rfl | (cases a1 <;> rfl)) rfl ?_
  cases a1 with
  | none =>
    refine px_ifnullN rfl rfl rfl ?_
    refine px_forget (n := 0) (lv' := [_, _]) rfl ?_
    refine px_forget (n := 1) (lv' := [_, _]) rfl ?_
    exact (r_Scribe_listName_11 h :)
  | some p1 =>
    refine px_ifnullR rfl rfl ?_
    refine px_ld rfl rfl rfl rfl rfl ?_
    obtain ⟨t2, h0, h⟩ := xs_some h
    obtain ⟨fs, e1, e2⟩ := xgI_some h0
    refine px_get rfl e1 e2 rfl ?_
    refine px_ifeq rfl rfl rfl (fun hc => ?_) (fun hc => ?_)
    · replace h := (if_pos hc).symm.trans h
      refine px_ld rfl rfl rfl rfl rfl ?_
      refine px_ld rfl rfl rfl rfl rfl ?_
      obtain ⟨t3, h0, h⟩ := xs_some h
      obtain ⟨fs, e1, e2⟩ := xgI_some h0
      refine px_get rfl e1 e2 rfl ?_
      refine px_ld rfl rfl rfl rfl rfl ?_
      obtain ⟨t4, h0, h⟩ := xs_some h
      obtain ⟨fs, e1, e2⟩ := xgI_some h0
      refine px_get rfl e1 e2 rfl ?_
      refine px_alu rfl rfl rfl ?_
      obtain ⟨ph5, h0, h⟩ := xs_some h
      obtain ⟨fs, e1, e2, e3⟩ := xpI_some h0
      subst e3
      refine px_put rfl e1 e2 trivial rfl ?_
      refine px_ld rfl rfl rfl rfl rfl ?_
      obtain ⟨t6, h0, h⟩ := xs_some h
      obtain ⟨fs, e1, e2⟩ := xgI_some h0
      refine px_get rfl e1 e2 rfl ?_
      refine px_ld rfl rfl rfl rfl rfl ?_
      obtain ⟨t7, h0, h⟩ := xs_some h
      obtain ⟨fs, e1, e2⟩ := xgR_some h0
      refine px_get rfl e1 e2 rfl ?_
      obtain ⟨t8, h0, h⟩ := xs_some h
      obtain ⟨x, e1, e3⟩ := xal_some h0
      subst e3
      refine px_alen rfl e1 rfl rfl ?_
      refine px_icge rfl rfl rfl (fun hc => ?_) (fun hc => ?_)
      · replace h := (if_pos hc).symm.trans h
        refine px_forget (n := 1) (lv' := [_, _]) rfl ?_
        exact (r_Scribe_listName_47 h :)
      · replace h := (if_neg hc).symm.trans h
        refine px_ld rfl rfl rfl rfl rfl ?_
        obtain ⟨t9, h0, h⟩ := xs_some h
        obtain ⟨fs, e1, e2⟩ := xgR_some h0
        refine px_get rfl e1 e2 rfl ?_
        refine px_ld rfl rfl rfl rfl rfl ?_
        obtain ⟨t10, h0, h⟩ := xs_some h
        obtain ⟨fs, e1, e2⟩ := xgI_some h0
        refine px_get rfl e1 e2 rfl ?_
        refine px_ld rfl rfl rfl rfl rfl ?_
        obtain ⟨ph11, h0, h⟩ := xs_some h
        obtain ⟨N, f, e1, e2, e3, e4⟩ := xsO_some h0
        subst e3
        refine px_aastO (o := (some p1)) rfl e1 rfl e4 rfl e2 rfl ?_
        refine px_forget (n := 1) (lv' := [_, _]) rfl ?_
        exact (r_Scribe_listName_47 h :)
    · replace h := (if_neg hc).symm.trans h
      refine px_forget (n := 0) (lv' := [_, _]) rfl ?_
      refine px_forget (n := 1) (lv' := [_, _]) rfl ?_
      exact (r_Scribe_listName_11 h :)
def f_Scribe_numberSymbols_291 (F : Nat) (c : px_CT) (a0 : Nat) (ph : px_H) : Option (Int32 × px_H) :=
  (xgI ph 11 7 a0).bind fun t1 =>
  (xgI ph 11 6 a0).bind fun t2 =>
  some (t1 + t2, ph)
theorem r_Scribe_numberSymbols_291 {l : Launch} {g : px_G} {d F : Nat} {a0 : Nat} {ph : px_H} {r : Int32} {ph' : px_H} (h : f_Scribe_numberSymbols_291 F (px_ct g) a0 ph = some (r, ph')) : PW l g (d + 1) m_Scribe_numberSymbols 291 [.ref a0, px_u, px_u, px_u, px_u, px_u] [] ph (px_qI r ph') := by
  unfold f_Scribe_numberSymbols_291 at h
  refine px_ld rfl rfl rfl rfl rfl ?_
  obtain ⟨t1, h0, h⟩ := xs_some h
  obtain ⟨fs, e1, e2⟩ := xgI_some h0
  refine px_get rfl e1 e2 rfl ?_
  refine px_ld rfl rfl rfl rfl rfl ?_
  obtain ⟨t2, h0, h⟩ := xs_some h
  obtain ⟨fs, e1, e2⟩ := xgI_some h0
  refine px_get rfl e1 e2 rfl ?_
  refine px_alu rfl rfl rfl ?_
  cases h
  exact px_iret rfl (Or.inl rfl) rfl ⟨rfl, rfl⟩
def f_Scribe_numberSymbols_285 (F : Nat) (c : px_CT) (k247 : Nat → Int32 → px_H → Option (Int32 × px_H)) (a0 : Nat) (a2 : Int32) (ph : px_H) : Option (Int32 × px_H) :=
  k247 a0 (a2 + nI 1) ph
theorem r_Scribe_numberSymbols_285 {l : Launch} {g : px_G} {d F : Nat} {k247 : Nat → Int32 → px_H → Option (Int32 × px_H)} (hk247 : ∀ {a0 : Nat} {a2 : Int32} {ph : px_H} {r : Int32} {ph' : px_H}, k247 a0 a2 ph = some (r, ph') → PW l g (d + 1) m_Scribe_numberSymbols 247 [.ref a0, px_u, .int a2, px_u, px_u, px_u] [] ph (px_qI r ph')) {a0 : Nat} {a2 : Int32} {ph : px_H} {r : Int32} {ph' : px_H} (h : f_Scribe_numberSymbols_285 F (px_ct g) k247 a0 a2 ph = some (r, ph')) : PW l g (d + 1) m_Scribe_numberSymbols 285 [.ref a0, px_u, .int a2, px_u, px_u, px_u] [] ph (px_qI r ph') := by
  unfold f_Scribe_numberSymbols_285 at h
  refine px_iinc (lv' := [_, _, _, _, _, _]) rfl rfl rfl rfl rfl rfl ?_
  refine px_goto rfl (by decide) rfl ?_
  exact (hk247 h :)
def f_Scribe_numberSymbols_260 (F : Nat) (c : px_CT) (k247 : Nat → Int32 → px_H → Option (Int32 × px_H)) : Nat → Nat → Int32 → Int32 → px_H → Option (Int32 × px_H)
  | 0, _, _, _, _ => none
  | n + 1, a0, a2, a3, ph =>
    if (nI 64) ≤ a3 then
      f_Scribe_numberSymbols_285 F c k247 a0 a2 ph
    else
      (xgR ph 11 0 a0).bind fun t1 =>
      (xo ph 3 t1).bind fun _ =>
      xb (f_Link_nameOf F c t1 a2 a3 ph) fun t2 ph3 =>
      (xo ph3 11 a0).bind fun _ =>
      xb (f_Scribe_listName F c a0 t2 ph3) fun _ ph4 =>
      f_Scribe_numberSymbols_260 F c k247 n a0 a2 (a3 + nI 1) ph4
theorem r_Scribe_numberSymbols_260 {l : Launch} {g : px_G} {d F : Nat} {k247 : Nat → Int32 → px_H → Option (Int32 × px_H)} (hk247 : ∀ {a0 : Nat} {a2 : Int32} {ph : px_H} {r : Int32} {ph' : px_H}, k247 a0 a2 ph = some (r, ph') → PW l g (d + 1) m_Scribe_numberSymbols 247 [.ref a0, px_u, .int a2, px_u, px_u, px_u] [] ph (px_qI r ph')) : ∀ (n : Nat) {a0 : Nat} {a2 : Int32} {a3 : Int32} {ph : px_H} {r : Int32} {ph' : px_H}, f_Scribe_numberSymbols_260 F (px_ct g) k247 n a0 a2 a3 ph = some (r, ph') → PW l g (d + 1) m_Scribe_numberSymbols 260 [.ref a0, px_u, .int a2, .int a3, px_u, px_u] [] ph (px_qI r ph') := by
  intro n
  induction n with
  | zero => intro _ _ _ _ _ _ h; cases h
  | succ n ih =>
    intro a0 a2 a3 ph r ph' h
    unfold f_Scribe_numberSymbols_260 at h
    refine px_ld rfl rfl rfl rfl rfl ?_
    refine px_ic (k := 64) rfl rfl rfl ?_
    refine px_icge rfl (by decide) rfl (fun hc => ?_) (fun hc => ?_)
    · replace h := (if_pos hc).symm.trans h
      refine px_forget (n := 3) (lv' := [_, _, _, _, _, _]) rfl ?_
      exact (r_Scribe_numberSymbols_285 @hk247 h :)
    · replace h := (if_neg hc).symm.trans h
      refine px_ld rfl rfl rfl rfl rfl ?_
      refine px_ld rfl rfl rfl rfl rfl ?_
      obtain ⟨t1, h0, h⟩ := xs_some h
      obtain ⟨fs, e1, e2⟩ := xgR_some h0
      refine px_get rfl e1 e2 rfl ?_
      refine px_ld rfl rfl rfl rfl rfl ?_
      refine px_ld rfl rfl rfl rfl rfl ?_
      obtain ⟨fs, h0, h⟩ := xs_some h
      have e1 := xo_some h0
      obtain ⟨t2, ph3, h0, h⟩ := xb_some h
      refine px_cV2 rfl rfl e1 rfl rfl rfl rfl rfl rfl rfl (r_Link_nameOf h0 :) (fun _ _ q => nomatch q.2) (fun r ph' q => ?_)
      obtain ⟨rfl, q⟩ := q
      cases q
      obtain ⟨fs, h0, h⟩ := xs_some h
      have e1 := xo_some h0
      obtain ⟨u0, ph4, h0, h⟩ := xb_some h
      refine px_cV1 (lv0 := [.ref a0, va_rf t2]) rfl rfl e1 rfl rfl rfl (by first | rfl | (cases t2 <;> rfl)) rfl (by first | rfl | (cases t2 <;> rfl)) rfl (r_Scribe_listName h0 :) (fun _ _ q => nomatch q.2) (fun r ph' q => ?_)
      obtain ⟨rfl, q⟩ := q
      cases q
      refine px_iinc (lv' := [_, _, _, _, _, _]) rfl rfl rfl rfl rfl rfl ?_
      refine px_goto rfl (by decide) rfl ?_
      exact (ih h :)
def f_Scribe_numberSymbols_247 (F : Nat) (c : px_CT) : Nat → Nat → Int32 → px_H → Option (Int32 × px_H)
  | 0, _, _, _ => none
  | n + 1, a0, a2, ph =>
    (xgR ph 11 0 a0).bind fun t1 =>
    (xgI ph 3 14 t1).bind fun t2 =>
    if t2 ≤ a2 then
      f_Scribe_numberSymbols_291 F c a0 ph
    else
      f_Scribe_numberSymbols_260 F c (f_Scribe_numberSymbols_247 F c n) F a0 a2 (nI 0) ph
theorem r_Scribe_numberSymbols_247 {l : Launch} {g : px_G} {d F : Nat} : ∀ (n : Nat) {a0 : Nat} {a2 : Int32} {ph : px_H} {r : Int32} {ph' : px_H}, f_Scribe_numberSymbols_247 F (px_ct g) n a0 a2 ph = some (r, ph') → PW l g (d + 1) m_Scribe_numberSymbols 247 [.ref a0, px_u, .int a2, px_u, px_u, px_u] [] ph (px_qI r ph') := by
  intro n
  induction n with
  | zero => intro _ _ _ _ _ h; cases h
  | succ n ih =>
    intro a0 a2 ph r ph' h
    unfold f_Scribe_numberSymbols_247 at h
    refine px_ld rfl rfl rfl rfl rfl ?_
    refine px_ld rfl rfl rfl rfl rfl ?_
    obtain ⟨t1, h0, h⟩ := xs_some h
    obtain ⟨fs, e1, e2⟩ := xgR_some h0
    refine px_get rfl e1 e2 rfl ?_
    obtain ⟨t2, h0, h⟩ := xs_some h
    obtain ⟨fs, e1, e2⟩ := xgI_some h0
    refine px_get rfl e1 e2 rfl ?_
    refine px_icge rfl (by decide) rfl (fun hc => ?_) (fun hc => ?_)
    · replace h := (if_pos hc).symm.trans h
      refine px_forget (n := 2) (lv' := [_, _, _, _, _, _]) rfl ?_
      exact (r_Scribe_numberSymbols_291 h :)
    · replace h := (if_neg hc).symm.trans h
      refine px_ic (k := 0) rfl rfl rfl ?_
      refine px_st (lv' := [_, _, _, _, _, _]) rfl rfl rfl rfl rfl rfl rfl ?_
      exact (r_Scribe_numberSymbols_260 @ih _ h :)
def f_Scribe_numberSymbols_245 (F : Nat) (c : px_CT) (a0 : Nat) (ph : px_H) : Option (Int32 × px_H) :=
  f_Scribe_numberSymbols_247 F c F a0 (nI 0) ph
theorem r_Scribe_numberSymbols_245 {l : Launch} {g : px_G} {d F : Nat} {a0 : Nat} {ph : px_H} {r : Int32} {ph' : px_H} (h : f_Scribe_numberSymbols_245 F (px_ct g) a0 ph = some (r, ph')) : PW l g (d + 1) m_Scribe_numberSymbols 245 [.ref a0, px_u, px_u, px_u, px_u, px_u] [] ph (px_qI r ph') := by
  unfold f_Scribe_numberSymbols_245 at h
  refine px_ic (k := 0) rfl rfl rfl ?_
  refine px_st (lv' := [_, _, _, _, _, _]) rfl rfl rfl rfl rfl rfl rfl ?_
  exact (r_Scribe_numberSymbols_247 _ h :)
def f_Scribe_numberSymbols_200 (F : Nat) (c : px_CT) : Nat → Nat → Int32 → px_H → Option (Int32 × px_H)
  | 0, _, _, _ => none
  | n + 1, a0, a2, ph =>
    (xgR ph 11 0 a0).bind fun t1 =>
    (xgR ph 3 2 t1).bind fun t2 =>
    (xgI ph 6 2 t2).bind fun t3 =>
    if t3 ≤ a2 then
      f_Scribe_numberSymbols_245 F c a0 ph
    else
      (xgR ph 11 0 a0).bind fun t4 =>
      (xgR ph 3 3 t4).bind fun t5 =>
      (xgR ph 11 0 a0).bind fun t6 =>
      (xgR ph 3 2 t6).bind fun t7 =>
      (xo ph 6 t7).bind fun _ =>
      xb (f_Names_at F c t7 a2 ph) fun t8 ph9 =>
      (xo ph9 6 t5).bind fun _ =>
      xb (f_Names_find F c t5 t8 ph9) fun t10 ph11 =>
      (xo ph11 11 a0).bind fun _ =>
      xb (f_Scribe_listName F c a0 t10 ph11) fun _ ph12 =>
      f_Scribe_numberSymbols_200 F c n a0 (a2 + nI 1) ph12
theorem r_Scribe_numberSymbols_200 {l : Launch} {g : px_G} {d F : Nat} : ∀ (n : Nat) {a0 : Nat} {a2 : Int32} {ph : px_H} {r : Int32} {ph' : px_H}, f_Scribe_numberSymbols_200 F (px_ct g) n a0 a2 ph = some (r, ph') → PW l g (d + 1) m_Scribe_numberSymbols 200 [.ref a0, px_u, .int a2, px_u, px_u, px_u] [] ph (px_qI r ph') := by
  intro n
  induction n with
  | zero => intro _ _ _ _ _ h; cases h
  | succ n ih =>
    intro a0 a2 ph r ph' h
    unfold f_Scribe_numberSymbols_200 at h
    refine px_ld rfl rfl rfl rfl rfl ?_
    refine px_ld rfl rfl rfl rfl rfl ?_
    obtain ⟨t1, h0, h⟩ := xs_some h
    obtain ⟨fs, e1, e2⟩ := xgR_some h0
    refine px_get rfl e1 e2 rfl ?_
    obtain ⟨t2, h0, h⟩ := xs_some h
    obtain ⟨fs, e1, e2⟩ := xgR_some h0
    refine px_get rfl e1 e2 rfl ?_
    obtain ⟨t3, h0, h⟩ := xs_some h
    obtain ⟨fs, e1, e2⟩ := xgI_some h0
    refine px_get rfl e1 e2 rfl ?_
    refine px_icge rfl (by decide) rfl (fun hc => ?_) (fun hc => ?_)
    · replace h := (if_pos hc).symm.trans h
      refine px_forget (n := 2) (lv' := [_, _, _, _, _, _]) rfl ?_
      exact (r_Scribe_numberSymbols_245 h :)
    · replace h := (if_neg hc).symm.trans h
      refine px_ld rfl rfl rfl rfl rfl ?_
      refine px_ld rfl rfl rfl rfl rfl ?_
      obtain ⟨t4, h0, h⟩ := xs_some h
      obtain ⟨fs, e1, e2⟩ := xgR_some h0
      refine px_get rfl e1 e2 rfl ?_
      obtain ⟨t5, h0, h⟩ := xs_some h
      obtain ⟨fs, e1, e2⟩ := xgR_some h0
      refine px_get rfl e1 e2 rfl ?_
      refine px_ld rfl rfl rfl rfl rfl ?_
      obtain ⟨t6, h0, h⟩ := xs_some h
      obtain ⟨fs, e1, e2⟩ := xgR_some h0
      refine px_get rfl e1 e2 rfl ?_
      obtain ⟨t7, h0, h⟩ := xs_some h
      obtain ⟨fs, e1, e2⟩ := xgR_some h0
      refine px_get rfl e1 e2 rfl ?_
      refine px_ld rfl rfl rfl rfl rfl ?_
      obtain ⟨fs, h0, h⟩ := xs_some h
      have e1 := xo_some h0
      obtain ⟨t8, ph9, h0, h⟩ := xb_some h
      refine px_cV1 rfl rfl e1 rfl rfl rfl rfl rfl rfl rfl (r_Names_at h0 :) (fun _ _ q => nomatch q.2) (fun r ph' q => ?_)
      obtain ⟨rfl, q⟩ := q
      cases q
      obtain ⟨fs, h0, h⟩ := xs_some h
      have e1 := xo_some h0
      obtain ⟨t10, ph11, h0, h⟩ := xb_some h
      refine px_cV1 (lv0 := [.ref t5, va_rf t8, px_u, px_u]) rfl rfl e1 rfl rfl rfl (by first | rfl | (cases t8 <;> rfl)) rfl (by first | rfl | (cases t8 <;> rfl)) rfl (r_Names_find h0 :) (fun _ _ q => nomatch q.2) (fun r ph' q => ?_)
      obtain ⟨rfl, q⟩ := q
      cases q
      obtain ⟨fs, h0, h⟩ := xs_some h
      have e1 := xo_some h0
      obtain ⟨u0, ph12, h0, h⟩ := xb_some h
      refine px_cV1 (lv0 := [.ref a0, va_rf t10]) rfl rfl e1 rfl rfl rfl (by first | rfl | (cases t10 <;> rfl)) rfl (by first | rfl | (cases t10 <;> rfl)) rfl (r_Scribe_listName h0 :) (fun _ _ q => nomatch q.2) (fun r ph' q => ?_)
      obtain ⟨rfl, q⟩ := q
      cases q
      refine px_iinc (lv' := [_, _, _, _, _, _]) rfl rfl rfl rfl rfl rfl ?_
      refine px_goto rfl (by decide) rfl ?_
      exact (ih h :)
def f_Scribe_numberSymbols_198 (F : Nat) (c : px_CT) (a0 : Nat) (ph : px_H) : Option (Int32 × px_H) :=
  f_Scribe_numberSymbols_200 F c F a0 (nI 0) ph
theorem r_Scribe_numberSymbols_198 {l : Launch} {g : px_G} {d F : Nat} {a0 : Nat} {ph : px_H} {r : Int32} {ph' : px_H} (h : f_Scribe_numberSymbols_198 F (px_ct g) a0 ph = some (r, ph')) : PW l g (d + 1) m_Scribe_numberSymbols 198 [.ref a0, px_u, px_u, px_u, px_u, px_u] [] ph (px_qI r ph') := by
  unfold f_Scribe_numberSymbols_198 at h
  refine px_ic (k := 0) rfl rfl rfl ?_
  refine px_st (lv' := [_, _, _, _, _, _]) rfl rfl rfl rfl rfl rfl rfl ?_
  exact (r_Scribe_numberSymbols_200 _ h :)
def f_Scribe_numberSymbols_169 (F : Nat) (c : px_CT) : Nat → Nat → Int32 → px_H → Option (Int32 × px_H)
  | 0, _, _, _ => none
  | n + 1, a0, a2, ph =>
    (xgR ph 11 0 a0).bind fun t1 =>
    (xgI ph 3 15 t1).bind fun t2 =>
    if t2 ≤ a2 then
      f_Scribe_numberSymbols_198 F c a0 ph
    else
      (xgR ph 11 0 a0).bind fun t3 =>
      (xo ph 3 t3).bind fun _ =>
      xb (f_Link_definedAt F c t3 a2 ph) fun t4 ph5 =>
      (xo ph5 11 a0).bind fun _ =>
      xb (f_Scribe_listName F c a0 t4 ph5) fun _ ph6 =>
      f_Scribe_numberSymbols_169 F c n a0 (a2 + nI 1) ph6
theorem r_Scribe_numberSymbols_169 {l : Launch} {g : px_G} {d F : Nat} : ∀ (n : Nat) {a0 : Nat} {a2 : Int32} {ph : px_H} {r : Int32} {ph' : px_H}, f_Scribe_numberSymbols_169 F (px_ct g) n a0 a2 ph = some (r, ph') → PW l g (d + 1) m_Scribe_numberSymbols 169 [.ref a0, px_u, .int a2, px_u, px_u, px_u] [] ph (px_qI r ph') := by
  intro n
  induction n with
  | zero => intro _ _ _ _ _ h; cases h
  | succ n ih =>
    intro a0 a2 ph r ph' h
    unfold f_Scribe_numberSymbols_169 at h
    refine px_ld rfl rfl rfl rfl rfl ?_
    refine px_ld rfl rfl rfl rfl rfl ?_
    obtain ⟨t1, h0, h⟩ := xs_some h
    obtain ⟨fs, e1, e2⟩ := xgR_some h0
    refine px_get rfl e1 e2 rfl ?_
    obtain ⟨t2, h0, h⟩ := xs_some h
    obtain ⟨fs, e1, e2⟩ := xgI_some h0
    refine px_get rfl e1 e2 rfl ?_
    refine px_icge rfl (by decide) rfl (fun hc => ?_) (fun hc => ?_)
    · replace h := (if_pos hc).symm.trans h
      refine px_forget (n := 2) (lv' := [_, _, _, _, _, _]) rfl ?_
      exact (r_Scribe_numberSymbols_198 h :)
    · replace h := (if_neg hc).symm.trans h
      refine px_ld rfl rfl rfl rfl rfl ?_
      refine px_ld rfl rfl rfl rfl rfl ?_
      obtain ⟨t3, h0, h⟩ := xs_some h
      obtain ⟨fs, e1, e2⟩ := xgR_some h0
      refine px_get rfl e1 e2 rfl ?_
      refine px_ld rfl rfl rfl rfl rfl ?_
      obtain ⟨fs, h0, h⟩ := xs_some h
      have e1 := xo_some h0
      obtain ⟨t4, ph5, h0, h⟩ := xb_some h
      refine px_cV1 rfl rfl e1 rfl rfl rfl rfl rfl rfl rfl (r_Link_definedAt h0 :) (fun _ _ q => nomatch q.2) (fun r ph' q => ?_)
      obtain ⟨rfl, q⟩ := q
      cases q
      obtain ⟨fs, h0, h⟩ := xs_some h
      have e1 := xo_some h0
      obtain ⟨u0, ph6, h0, h⟩ := xb_some h
      refine px_cV1 (lv0 := [.ref a0, va_rf t4]) rfl rfl e1 rfl rfl rfl (by first | rfl | (cases t4 <;> rfl)) rfl (by first | rfl | (cases t4 <;> rfl)) rfl (r_Scribe_listName h0 :) (fun _ _ q => nomatch q.2) (fun r ph' q => ?_)
      obtain ⟨rfl, q⟩ := q
      cases q
      refine px_iinc (lv' := [_, _, _, _, _, _]) rfl rfl rfl rfl rfl rfl ?_
      refine px_goto rfl (by decide) rfl ?_
      exact (ih h :)
def f_Scribe_numberSymbols_167 (F : Nat) (c : px_CT) (a0 : Nat) (ph : px_H) : Option (Int32 × px_H) :=
  f_Scribe_numberSymbols_169 F c F a0 (nI 0) ph
theorem r_Scribe_numberSymbols_167 {l : Launch} {g : px_G} {d F : Nat} {a0 : Nat} {ph : px_H} {r : Int32} {ph' : px_H} (h : f_Scribe_numberSymbols_167 F (px_ct g) a0 ph = some (r, ph')) : PW l g (d + 1) m_Scribe_numberSymbols 167 [.ref a0, px_u, px_u, px_u, px_u, px_u] [] ph (px_qI r ph') := by
  unfold f_Scribe_numberSymbols_167 at h
  refine px_ic (k := 0) rfl rfl rfl ?_
  refine px_st (lv' := [_, _, _, _, _, _]) rfl rfl rfl rfl rfl rfl rfl ?_
  exact (r_Scribe_numberSymbols_169 _ h :)
def f_Scribe_numberSymbols_132 (F : Nat) (c : px_CT) : Nat → Nat → Int32 → px_H → Option (Int32 × px_H)
  | 0, _, _, _ => none
  | n + 1, a0, a2, ph =>
    (xgR ph 11 0 a0).bind fun t1 =>
    (xgR ph 3 3 t1).bind fun t2 =>
    (xgI ph 6 2 t2).bind fun t3 =>
    if t3 ≤ a2 then
      f_Scribe_numberSymbols_167 F c a0 ph
    else
      (xgR ph 11 0 a0).bind fun t4 =>
      (xgR ph 3 3 t4).bind fun t5 =>
      (xo ph 6 t5).bind fun _ =>
      xb (f_Names_at F c t5 a2 ph) fun t6 ph7 =>
      (t6).bind fun p8 =>
      (xpI ph7 5 17 p8 (nI 0)).bind fun ph9 =>
      f_Scribe_numberSymbols_132 F c n a0 (a2 + nI 1) ph9
theorem r_Scribe_numberSymbols_132 {l : Launch} {g : px_G} {d F : Nat} : ∀ (n : Nat) {a0 : Nat} {a2 : Int32} {ph : px_H} {r : Int32} {ph' : px_H}, f_Scribe_numberSymbols_132 F (px_ct g) n a0 a2 ph = some (r, ph') → PW l g (d + 1) m_Scribe_numberSymbols 132 [.ref a0, px_u, .int a2, px_u, px_u, px_u] [] ph (px_qI r ph') := by
  intro n
  induction n with
  | zero => intro _ _ _ _ _ h; cases h
  | succ n ih =>
    intro a0 a2 ph r ph' h
    unfold f_Scribe_numberSymbols_132 at h
    refine px_ld rfl rfl rfl rfl rfl ?_
    refine px_ld rfl rfl rfl rfl rfl ?_
    obtain ⟨t1, h0, h⟩ := xs_some h
    obtain ⟨fs, e1, e2⟩ := xgR_some h0
    refine px_get rfl e1 e2 rfl ?_
    obtain ⟨t2, h0, h⟩ := xs_some h
    obtain ⟨fs, e1, e2⟩ := xgR_some h0
    refine px_get rfl e1 e2 rfl ?_
    obtain ⟨t3, h0, h⟩ := xs_some h
    obtain ⟨fs, e1, e2⟩ := xgI_some h0
    refine px_get rfl e1 e2 rfl ?_
    refine px_icge rfl (by decide) rfl (fun hc => ?_) (fun hc => ?_)
    · replace h := (if_pos hc).symm.trans h
      refine px_forget (n := 2) (lv' := [_, _, _, _, _, _]) rfl ?_
      exact (r_Scribe_numberSymbols_167 h :)
    · replace h := (if_neg hc).symm.trans h
      refine px_ld rfl rfl rfl rfl rfl ?_
      obtain ⟨t4, h0, h⟩ := xs_some h
      obtain ⟨fs, e1, e2⟩ := xgR_some h0
      refine px_get rfl e1 e2 rfl ?_
      obtain ⟨t5, h0, h⟩ := xs_some h
      obtain ⟨fs, e1, e2⟩ := xgR_some h0
      refine px_get rfl e1 e2 rfl ?_
      refine px_ld rfl rfl rfl rfl rfl ?_
      obtain ⟨fs, h0, h⟩ := xs_some h
      have e1 := xo_some h0
      obtain ⟨t6, ph7, h0, h⟩ := xb_some h
      refine px_cV1 rfl rfl e1 rfl rfl rfl rfl rfl rfl rfl (r_Names_at h0 :) (fun _ _ q => nomatch q.2) (fun r ph' q => ?_)
      obtain ⟨rfl, q⟩ := q
      cases q
      refine px_ic (k := 0) rfl rfl rfl ?_
      obtain ⟨p8, h0, h⟩ := xs_some h
      revert h
      subst h0
      intro h
      obtain ⟨ph9, h0, h⟩ := xs_some h
      obtain ⟨fs, e1, e2, e3⟩ := xpI_some h0
      subst e3
      refine px_put rfl e1 e2 trivial rfl ?_
      refine px_iinc (lv' := [_, _, _, _, _, _]) rfl rfl rfl rfl rfl rfl ?_
      refine px_goto rfl (by decide) rfl ?_
      exact (ih h :)
def f_Scribe_numberSymbols_120 (F : Nat) (c : px_CT) (a0 : Nat) (a1 : Int32) (ph : px_H) : Option (Int32 × px_H) :=
  (xpI ph 11 7 a0 a1).bind fun ph1 =>
  (xpI ph1 11 6 a0 (nI 0)).bind fun ph2 =>
  f_Scribe_numberSymbols_132 F c F a0 (nI 0) ph2
theorem r_Scribe_numberSymbols_120 {l : Launch} {g : px_G} {d F : Nat} {a0 : Nat} {a1 : Int32} {ph : px_H} {r : Int32} {ph' : px_H} (h : f_Scribe_numberSymbols_120 F (px_ct g) a0 a1 ph = some (r, ph')) : PW l g (d + 1) m_Scribe_numberSymbols 120 [.ref a0, .int a1, px_u, px_u, px_u, px_u] [] ph (px_qI r ph') := by
  unfold f_Scribe_numberSymbols_120 at h
  refine px_ld rfl rfl rfl rfl rfl ?_
  refine px_ld rfl rfl rfl rfl rfl ?_
  obtain ⟨ph1, h0, h⟩ := xs_some h
  obtain ⟨fs, e1, e2, e3⟩ := xpI_some h0
  subst e3
  refine px_put rfl e1 e2 trivial rfl ?_
  refine px_ld rfl rfl rfl rfl rfl ?_
  refine px_ic (k := 0) rfl rfl rfl ?_
  obtain ⟨ph2, h0, h⟩ := xs_some h
  obtain ⟨fs, e1, e2, e3⟩ := xpI_some h0
  subst e3
  refine px_put rfl e1 e2 trivial rfl ?_
  refine px_ic (k := 0) rfl rfl rfl ?_
  refine px_st (lv' := [_, _, _, _, _, _]) rfl rfl rfl rfl rfl rfl rfl ?_
  refine px_forget (n := 1) (lv' := [_, _, _, _, _, _]) rfl ?_
  exact (r_Scribe_numberSymbols_132 _ h :)
def f_Scribe_numberSymbols_114 (F : Nat) (c : px_CT) (k4 : Nat → Int32 → Int32 → px_H → Option (Int32 × px_H)) (a0 : Nat) (a1 : Int32) (a2 : Int32) (ph : px_H) : Option (Int32 × px_H) :=
  k4 a0 a1 (a2 + nI 1) ph
theorem r_Scribe_numberSymbols_114 {l : Launch} {g : px_G} {d F : Nat} {k4 : Nat → Int32 → Int32 → px_H → Option (Int32 × px_H)} (hk4 : ∀ {a0 : Nat} {a1 : Int32} {a2 : Int32} {ph : px_H} {r : Int32} {ph' : px_H}, k4 a0 a1 a2 ph = some (r, ph') → PW l g (d + 1) m_Scribe_numberSymbols 4 [.ref a0, .int a1, .int a2, px_u, px_u, px_u] [] ph (px_qI r ph')) {a0 : Nat} {a1 : Int32} {a2 : Int32} {ph : px_H} {r : Int32} {ph' : px_H} (h : f_Scribe_numberSymbols_114 F (px_ct g) k4 a0 a1 a2 ph = some (r, ph')) : PW l g (d + 1) m_Scribe_numberSymbols 114 [.ref a0, .int a1, .int a2, px_u, px_u, px_u] [] ph (px_qI r ph') := by
  unfold f_Scribe_numberSymbols_114 at h
  refine px_iinc (lv' := [_, _, _, _, _, _]) rfl rfl rfl rfl rfl rfl ?_
  refine px_goto rfl (by decide) rfl ?_
  exact (hk4 h :)
def f_Scribe_numberSymbols_106 (F : Nat) (c : px_CT) (k4 : Nat → Int32 → Int32 → px_H → Option (Int32 × px_H)) (k27 : Nat → Int32 → Int32 → Option Nat → Int32 → px_H → Option (Int32 × px_H)) (a0 : Nat) (a2 : Int32) (a3 : Option Nat) (a4 : Int32) (s0 : Int32) (s1 : Int32) (ph : px_H) : Option (Int32 × px_H) :=
  k27 a0 (s0 + s1) a2 a3 (a4 + nI 1) ph
theorem r_Scribe_numberSymbols_106 {l : Launch} {g : px_G} {d F : Nat} {k4 : Nat → Int32 → Int32 → px_H → Option (Int32 × px_H)} (hk4 : ∀ {a0 : Nat} {a1 : Int32} {a2 : Int32} {ph : px_H} {r : Int32} {ph' : px_H}, k4 a0 a1 a2 ph = some (r, ph') → PW l g (d + 1) m_Scribe_numberSymbols 4 [.ref a0, .int a1, .int a2, px_u, px_u, px_u] [] ph (px_qI r ph')) {k27 : Nat → Int32 → Int32 → Option Nat → Int32 → px_H → Option (Int32 × px_H)} (hk27 : ∀ {a0 : Nat} {a1 : Int32} {a2 : Int32} {a3 : Option Nat} {a4 : Int32} {ph : px_H} {r : Int32} {ph' : px_H}, k27 a0 a1 a2 a3 a4 ph = some (r, ph') → PW l g (d + 1) m_Scribe_numberSymbols 27 [.ref a0, .int a1, .int a2, va_rf a3, .int a4, px_u] [] ph (px_qI r ph')) {a0 : Nat} {a2 : Int32} {a3 : Option Nat} {a4 : Int32} {s0 : Int32} {s1 : Int32} {ph : px_H} {r : Int32} {ph' : px_H} (h : f_Scribe_numberSymbols_106 F (px_ct g) k4 k27 a0 a2 a3 a4 s0 s1 ph = some (r, ph')) : PW l g (d + 1) m_Scribe_numberSymbols 106 [.ref a0, px_u, .int a2, va_rf a3, .int a4, px_u] [.int s1, .int s0] ph (px_qI r ph') := by
  unfold f_Scribe_numberSymbols_106 at h
  refine px_alu rfl rfl rfl ?_
  refine px_st (lv' := [_, _, _, _, _, _]) rfl rfl rfl rfl rfl rfl rfl ?_
  refine px_iinc (lv' := [_, _, _, _, _, _]) rfl rfl rfl (by first | rfl | (cases a3 <;> rfl)) rfl rfl ?_
  refine px_goto rfl (by decide) rfl ?_
  exact (hk27 h :)
def f_Scribe_numberSymbols_105 (F : Nat) (c : px_CT) (k4 : Nat → Int32 → Int32 → px_H → Option (Int32 × px_H)) (k27 : Nat → Int32 → Int32 → Option Nat → Int32 → px_H → Option (Int32 × px_H)) (a0 : Nat) (a2 : Int32) (a3 : Option Nat) (a4 : Int32) (s0 : Int32) (ph : px_H) : Option (Int32 × px_H) :=
  f_Scribe_numberSymbols_106 F c k4 k27 a0 a2 a3 a4 s0 (nI 0) ph
theorem r_Scribe_numberSymbols_105 {l : Launch} {g : px_G} {d F : Nat} {k4 : Nat → Int32 → Int32 → px_H → Option (Int32 × px_H)} (hk4 : ∀ {a0 : Nat} {a1 : Int32} {a2 : Int32} {ph : px_H} {r : Int32} {ph' : px_H}, k4 a0 a1 a2 ph = some (r, ph') → PW l g (d + 1) m_Scribe_numberSymbols 4 [.ref a0, .int a1, .int a2, px_u, px_u, px_u] [] ph (px_qI r ph')) {k27 : Nat → Int32 → Int32 → Option Nat → Int32 → px_H → Option (Int32 × px_H)} (hk27 : ∀ {a0 : Nat} {a1 : Int32} {a2 : Int32} {a3 : Option Nat} {a4 : Int32} {ph : px_H} {r : Int32} {ph' : px_H}, k27 a0 a1 a2 a3 a4 ph = some (r, ph') → PW l g (d + 1) m_Scribe_numberSymbols 27 [.ref a0, .int a1, .int a2, va_rf a3, .int a4, px_u] [] ph (px_qI r ph')) {a0 : Nat} {a2 : Int32} {a3 : Option Nat} {a4 : Int32} {s0 : Int32} {ph : px_H} {r : Int32} {ph' : px_H} (h : f_Scribe_numberSymbols_105 F (px_ct g) k4 k27 a0 a2 a3 a4 s0 ph = some (r, ph')) : PW l g (d + 1) m_Scribe_numberSymbols 105 [.ref a0, px_u, .int a2, va_rf a3, .int a4, px_u] [.int s0] ph (px_qI r ph') := by
  unfold f_Scribe_numberSymbols_105 at h
  refine px_ic (k := 0) rfl rfl rfl ?_
  exact (r_Scribe_numberSymbols_106 @hk4 @hk27 h :)
def f_Scribe_numberSymbols_89 (F : Nat) (c : px_CT) (k4 : Nat → Int32 → Int32 → px_H → Option (Int32 × px_H)) (k27 : Nat → Int32 → Int32 → Option Nat → Int32 → px_H → Option (Int32 × px_H)) (a0 : Nat) (a1 : Int32) (a2 : Int32) (a3 : Option Nat) (a4 : Int32) (a5 : Int32) (s0 : Nat) (s1 : Int32) (s2 : Int32) (ph : px_H) : Option (Int32 × px_H) :=
  (xsI ph 1 s0 s1 s2).bind fun ph1 =>
  if a5 = 0 then
    f_Scribe_numberSymbols_105 F c k4 k27 a0 a2 a3 a4 a1 ph1
  else
    if a4 ≤ 0 then
      f_Scribe_numberSymbols_105 F c k4 k27 a0 a2 a3 a4 a1 ph1
    else
      f_Scribe_numberSymbols_106 F c k4 k27 a0 a2 a3 a4 a1 (nI 1) ph1
theorem r_Scribe_numberSymbols_89 {l : Launch} {g : px_G} {d F : Nat} {k4 : Nat → Int32 → Int32 → px_H → Option (Int32 × px_H)} (hk4 : ∀ {a0 : Nat} {a1 : Int32} {a2 : Int32} {ph : px_H} {r : Int32} {ph' : px_H}, k4 a0 a1 a2 ph = some (r, ph') → PW l g (d + 1) m_Scribe_numberSymbols 4 [.ref a0, .int a1, .int a2, px_u, px_u, px_u] [] ph (px_qI r ph')) {k27 : Nat → Int32 → Int32 → Option Nat → Int32 → px_H → Option (Int32 × px_H)} (hk27 : ∀ {a0 : Nat} {a1 : Int32} {a2 : Int32} {a3 : Option Nat} {a4 : Int32} {ph : px_H} {r : Int32} {ph' : px_H}, k27 a0 a1 a2 a3 a4 ph = some (r, ph') → PW l g (d + 1) m_Scribe_numberSymbols 27 [.ref a0, .int a1, .int a2, va_rf a3, .int a4, px_u] [] ph (px_qI r ph')) {a0 : Nat} {a1 : Int32} {a2 : Int32} {a3 : Option Nat} {a4 : Int32} {a5 : Int32} {s0 : Nat} {s1 : Int32} {s2 : Int32} {ph : px_H} {r : Int32} {ph' : px_H} (h : f_Scribe_numberSymbols_89 F (px_ct g) k4 k27 a0 a1 a2 a3 a4 a5 s0 s1 s2 ph = some (r, ph')) : PW l g (d + 1) m_Scribe_numberSymbols 89 [.ref a0, .int a1, .int a2, va_rf a3, .int a4, .int a5] [.int s2, .int s1, .ref s0] ph (px_qI r ph') := by
  unfold f_Scribe_numberSymbols_89 at h
  obtain ⟨ph1, h0, h⟩ := xs_some h
  obtain ⟨N, f, e1, e2, e3⟩ := xsI_some h0
  subst e3
  refine px_iast rfl e1 rfl e2 rfl ?_
  refine px_ld rfl rfl rfl rfl rfl ?_
  refine px_ld rfl rfl rfl rfl rfl ?_
  refine px_ifeq rfl (by decide) rfl (fun hc => ?_) (fun hc => ?_)
  · replace h := (if_pos hc).symm.trans h
    refine px_forget (n := 1) (lv' := [_, _, _, _, _, _]) rfl ?_
    refine px_forget (n := 5) (lv' := [_, _, _, _, _, _]) rfl ?_
    exact (r_Scribe_numberSymbols_105 @hk4 @hk27 h :)
  · replace h := (if_neg hc).symm.trans h
    refine px_ld rfl rfl rfl rfl rfl ?_
    refine px_ifle rfl (by decide) rfl (fun hc => ?_) (fun hc => ?_)
    · replace h := (if_pos hc).symm.trans h
      refine px_forget (n := 1) (lv' := [_, _, _, _, _, _]) rfl ?_
      refine px_forget (n := 5) (lv' := [_, _, _, _, _, _]) rfl ?_
      exact (r_Scribe_numberSymbols_105 @hk4 @hk27 h :)
    · replace h := (if_neg hc).symm.trans h
      refine px_ic (k := 1) rfl rfl rfl ?_
      refine px_goto rfl (by decide) rfl ?_
      refine px_forget (n := 1) (lv' := [_, _, _, _, _, _]) rfl ?_
      refine px_forget (n := 5) (lv' := [_, _, _, _, _, _]) rfl ?_
      exact (r_Scribe_numberSymbols_106 @hk4 @hk27 h :)
def f_Scribe_numberSymbols_88 (F : Nat) (c : px_CT) (k4 : Nat → Int32 → Int32 → px_H → Option (Int32 × px_H)) (k27 : Nat → Int32 → Int32 → Option Nat → Int32 → px_H → Option (Int32 × px_H)) (a0 : Nat) (a1 : Int32) (a2 : Int32) (a3 : Option Nat) (a4 : Int32) (a5 : Int32) (s0 : Nat) (s1 : Int32) (ph : px_H) : Option (Int32 × px_H) :=
  f_Scribe_numberSymbols_89 F c k4 k27 a0 a1 a2 a3 a4 a5 s0 s1 (nI 0) ph
theorem r_Scribe_numberSymbols_88 {l : Launch} {g : px_G} {d F : Nat} {k4 : Nat → Int32 → Int32 → px_H → Option (Int32 × px_H)} (hk4 : ∀ {a0 : Nat} {a1 : Int32} {a2 : Int32} {ph : px_H} {r : Int32} {ph' : px_H}, k4 a0 a1 a2 ph = some (r, ph') → PW l g (d + 1) m_Scribe_numberSymbols 4 [.ref a0, .int a1, .int a2, px_u, px_u, px_u] [] ph (px_qI r ph')) {k27 : Nat → Int32 → Int32 → Option Nat → Int32 → px_H → Option (Int32 × px_H)} (hk27 : ∀ {a0 : Nat} {a1 : Int32} {a2 : Int32} {a3 : Option Nat} {a4 : Int32} {ph : px_H} {r : Int32} {ph' : px_H}, k27 a0 a1 a2 a3 a4 ph = some (r, ph') → PW l g (d + 1) m_Scribe_numberSymbols 27 [.ref a0, .int a1, .int a2, va_rf a3, .int a4, px_u] [] ph (px_qI r ph')) {a0 : Nat} {a1 : Int32} {a2 : Int32} {a3 : Option Nat} {a4 : Int32} {a5 : Int32} {s0 : Nat} {s1 : Int32} {ph : px_H} {r : Int32} {ph' : px_H} (h : f_Scribe_numberSymbols_88 F (px_ct g) k4 k27 a0 a1 a2 a3 a4 a5 s0 s1 ph = some (r, ph')) : PW l g (d + 1) m_Scribe_numberSymbols 88 [.ref a0, .int a1, .int a2, va_rf a3, .int a4, .int a5] [.int s1, .ref s0] ph (px_qI r ph') := by
  unfold f_Scribe_numberSymbols_88 at h
  refine px_ic (k := 0) rfl rfl rfl ?_
  exact (r_Scribe_numberSymbols_89 @hk4 @hk27 h :)
def f_Scribe_numberSymbols_61 (F : Nat) (c : px_CT) (k4 : Nat → Int32 → Int32 → px_H → Option (Int32 × px_H)) (k27 : Nat → Int32 → Int32 → Option Nat → Int32 → px_H → Option (Int32 × px_H)) (a0 : Nat) (a1 : Int32) (a2 : Int32) (a3 : Option Nat) (a4 : Int32) (s0 : Int32) (ph : px_H) : Option (Int32 × px_H) :=
  (xgR ph 11 4 a0).bind fun t1 =>
  if s0 = 0 then
    f_Scribe_numberSymbols_88 F c k4 k27 a0 a1 a2 a3 a4 s0 t1 ((a2 * (nI 64)) + a4) ph
  else
    if a4 ≤ 0 then
      f_Scribe_numberSymbols_88 F c k4 k27 a0 a1 a2 a3 a4 s0 t1 ((a2 * (nI 64)) + a4) ph
    else
      f_Scribe_numberSymbols_89 F c k4 k27 a0 a1 a2 a3 a4 s0 t1 ((a2 * (nI 64)) + a4) a1 ph
theorem r_Scribe_numberSymbols_61 {l : Launch} {g : px_G} {d F : Nat} {k4 : Nat → Int32 → Int32 → px_H → Option (Int32 × px_H)} (hk4 : ∀ {a0 : Nat} {a1 : Int32} {a2 : Int32} {ph : px_H} {r : Int32} {ph' : px_H}, k4 a0 a1 a2 ph = some (r, ph') → PW l g (d + 1) m_Scribe_numberSymbols 4 [.ref a0, .int a1, .int a2, px_u, px_u, px_u] [] ph (px_qI r ph')) {k27 : Nat → Int32 → Int32 → Option Nat → Int32 → px_H → Option (Int32 × px_H)} (hk27 : ∀ {a0 : Nat} {a1 : Int32} {a2 : Int32} {a3 : Option Nat} {a4 : Int32} {ph : px_H} {r : Int32} {ph' : px_H}, k27 a0 a1 a2 a3 a4 ph = some (r, ph') → PW l g (d + 1) m_Scribe_numberSymbols 27 [.ref a0, .int a1, .int a2, va_rf a3, .int a4, px_u] [] ph (px_qI r ph')) {a0 : Nat} {a1 : Int32} {a2 : Int32} {a3 : Option Nat} {a4 : Int32} {s0 : Int32} {ph : px_H} {r : Int32} {ph' : px_H} (h : f_Scribe_numberSymbols_61 F (px_ct g) k4 k27 a0 a1 a2 a3 a4 s0 ph = some (r, ph')) : PW l g (d + 1) m_Scribe_numberSymbols 61 [.ref a0, .int a1, .int a2, va_rf a3, .int a4, px_u] [.int s0] ph (px_qI r ph') := by
  unfold f_Scribe_numberSymbols_61 at h
  refine px_st (lv' := [_, _, _, _, _, _]) rfl rfl rfl rfl rfl rfl rfl ?_
  refine px_ld rfl rfl rfl rfl rfl ?_
  obtain ⟨t1, h0, h⟩ := xs_some h
  obtain ⟨fs, e1, e2⟩ := xgR_some h0
  refine px_get rfl e1 e2 rfl ?_
  refine px_ld rfl rfl rfl rfl rfl ?_
  refine px_ic (k := 64) rfl rfl rfl ?_
  refine px_alu rfl rfl rfl ?_
  refine px_ld rfl rfl rfl rfl rfl ?_
  refine px_alu rfl rfl rfl ?_
  refine px_ld rfl rfl rfl rfl rfl ?_
  refine px_ifeq rfl (by decide) rfl (fun hc => ?_) (fun hc => ?_)
  · replace h := (if_pos hc).symm.trans h
    exact (r_Scribe_numberSymbols_88 @hk4 @hk27 h :)
  · replace h := (if_neg hc).symm.trans h
    refine px_ld rfl rfl rfl rfl rfl ?_
    refine px_ifle rfl (by decide) rfl (fun hc => ?_) (fun hc => ?_)
    · replace h := (if_pos hc).symm.trans h
      exact (r_Scribe_numberSymbols_88 @hk4 @hk27 h :)
    · replace h := (if_neg hc).symm.trans h
      refine px_ld rfl rfl rfl rfl rfl ?_
      refine px_goto rfl (by decide) rfl ?_
      exact (r_Scribe_numberSymbols_89 @hk4 @hk27 h :)
def f_Scribe_numberSymbols_27 (F : Nat) (c : px_CT) (k4 : Nat → Int32 → Int32 → px_H → Option (Int32 × px_H)) : Nat → Nat → Int32 → Int32 → Option Nat → Int32 → px_H → Option (Int32 × px_H)
  | 0, _, _, _, _, _, _ => none
  | n + 1, a0, a1, a2, a3, a4, ph =>
    (a3).bind fun p1 =>
    (xgI ph 7 11 p1).bind fun t2 =>
    if t2 ≤ a4 then
      f_Scribe_numberSymbols_114 F c k4 a0 a1 a2 ph
    else
      if (nI 64) ≤ a4 then
        f_Scribe_numberSymbols_114 F c k4 a0 a1 a2 ph
      else
        (xgR ph 11 0 a0).bind fun t3 =>
        (xo ph 3 t3).bind fun _ =>
        xb (f_Link_nameOf F c t3 a2 a4 ph) fun t4 ph5 =>
        (match t4 with
          | none => f_Scribe_numberSymbols_61 F c k4 (f_Scribe_numberSymbols_27 F c k4 n) a0 a1 a2 (some p1) a4 (nI 1) ph5
          | some p6 => f_Scribe_numberSymbols_61 F c k4 (f_Scribe_numberSymbols_27 F c k4 n) a0 a1 a2 (some p1) a4 (nI 0) ph5)
theorem r_Scribe_numberSymbols_27 {l : Launch} {g : px_G} {d F : Nat} {k4 : Nat → Int32 → Int32 → px_H → Option (Int32 × px_H)} (hk4 : ∀ {a0 : Nat} {a1 : Int32} {a2 : Int32} {ph : px_H} {r : Int32} {ph' : px_H}, k4 a0 a1 a2 ph = some (r, ph') → PW l g (d + 1) m_Scribe_numberSymbols 4 [.ref a0, .int a1, .int a2, px_u, px_u, px_u] [] ph (px_qI r ph')) : ∀ (n : Nat) {a0 : Nat} {a1 : Int32} {a2 : Int32} {a3 : Option Nat} {a4 : Int32} {ph : px_H} {r : Int32} {ph' : px_H}, f_Scribe_numberSymbols_27 F (px_ct g) k4 n a0 a1 a2 a3 a4 ph = some (r, ph') → PW l g (d + 1) m_Scribe_numberSymbols 27 [.ref a0, .int a1, .int a2, va_rf a3, .int a4, px_u] [] ph (px_qI r ph') := by
  intro n
  induction n with
  | zero => intro _ _ _ _ _ _ _ _ h; cases h
  | succ n ih =>
    intro a0 a1 a2 a3 a4 ph r ph' h
    unfold f_Scribe_numberSymbols_27 at h
    refine px_ld rfl rfl rfl rfl rfl ?_
    refine px_ld rfl rfl rfl (by first | rfl | (cases a3 <;> rfl)) rfl ?_
    obtain ⟨p1, h0, h⟩ := xs_some h
    revert h
    subst h0
    intro h
    obtain ⟨t2, h0, h⟩ := xs_some h
    obtain ⟨fs, e1, e2⟩ := xgI_some h0
    refine px_get rfl e1 e2 rfl ?_
    refine px_icge rfl (by decide) rfl (fun hc => ?_) (fun hc => ?_)
    · replace h := (if_pos hc).symm.trans h
      refine px_forget (n := 3) (lv' := [_, _, _, _, _, _]) rfl ?_
      refine px_forget (n := 4) (lv' := [_, _, _, _, _, _]) rfl ?_
      exact (r_Scribe_numberSymbols_114 @hk4 h :)
    · replace h := (if_neg hc).symm.trans h
      refine px_ld rfl rfl rfl rfl rfl ?_
      refine px_ic (k := 64) rfl rfl rfl ?_
      refine px_icge rfl (by decide) rfl (fun hc => ?_) (fun hc => ?_)
      · replace h := (if_pos hc).symm.trans h
        refine px_forget (n := 3) (lv' := [_, _, _, _, _, _]) rfl ?_
        refine px_forget (n := 4) (lv' := [_, _, _, _, _, _]) rfl ?_
        exact (r_Scribe_numberSymbols_114 @hk4 h :)
      · replace h := (if_neg hc).symm.trans h
        refine px_ld rfl rfl rfl rfl rfl ?_
        obtain ⟨t3, h0, h⟩ := xs_some h
        obtain ⟨fs, e1, e2⟩ := xgR_some h0
        refine px_get rfl e1 e2 rfl ?_
        refine px_ld rfl rfl rfl rfl rfl ?_
        refine px_ld rfl rfl rfl rfl rfl ?_
        obtain ⟨fs, h0, h⟩ := xs_some h
        have e1 := xo_some h0
        obtain ⟨t4, ph5, h0, h⟩ := xb_some h
        refine px_cV2 rfl rfl e1 rfl rfl rfl rfl rfl rfl rfl (r_Link_nameOf h0 :) (fun _ _ q => nomatch q.2) (fun r ph' q => ?_)
        obtain ⟨rfl, q⟩ := q
        cases q
        cases t4 with
        | none =>
          refine px_ifnnN rfl rfl ?_
          refine px_ic (k := 1) rfl rfl rfl ?_
          refine px_goto rfl (by decide) rfl ?_
          exact (r_Scribe_numberSymbols_61 @hk4 @ih h :)
        | some p6 =>
          refine px_ifnnR rfl (by decide) rfl ?_
          refine px_ic (k := 0) rfl rfl rfl ?_
          exact (r_Scribe_numberSymbols_61 @hk4 @ih h :)
def f_Scribe_numberSymbols_4 (F : Nat) (c : px_CT) : Nat → Nat → Int32 → Int32 → px_H → Option (Int32 × px_H)
  | 0, _, _, _, _ => none
  | n + 1, a0, a1, a2, ph =>
    (xgR ph 11 0 a0).bind fun t1 =>
    (xgI ph 3 14 t1).bind fun t2 =>
    if t2 ≤ a2 then
      f_Scribe_numberSymbols_120 F c a0 a1 ph
    else
      (xgR ph 11 0 a0).bind fun t3 =>
      (xo ph 3 t3).bind fun _ =>
      xb (f_Link_object F c t3 a2 ph) fun t4 ph5 =>
      f_Scribe_numberSymbols_27 F c (f_Scribe_numberSymbols_4 F c n) F a0 a1 a2 t4 (nI 0) ph5
theorem r_Scribe_numberSymbols_4 {l : Launch} {g : px_G} {d F : Nat} : ∀ (n : Nat) {a0 : Nat} {a1 : Int32} {a2 : Int32} {ph : px_H} {r : Int32} {ph' : px_H}, f_Scribe_numberSymbols_4 F (px_ct g) n a0 a1 a2 ph = some (r, ph') → PW l g (d + 1) m_Scribe_numberSymbols 4 [.ref a0, .int a1, .int a2, px_u, px_u, px_u] [] ph (px_qI r ph') := by
  intro n
  induction n with
  | zero => intro _ _ _ _ _ _ h; cases h
  | succ n ih =>
    intro a0 a1 a2 ph r ph' h
    unfold f_Scribe_numberSymbols_4 at h
    refine px_ld rfl rfl rfl rfl rfl ?_
    refine px_ld rfl rfl rfl rfl rfl ?_
    obtain ⟨t1, h0, h⟩ := xs_some h
    obtain ⟨fs, e1, e2⟩ := xgR_some h0
    refine px_get rfl e1 e2 rfl ?_
    obtain ⟨t2, h0, h⟩ := xs_some h
    obtain ⟨fs, e1, e2⟩ := xgI_some h0
    refine px_get rfl e1 e2 rfl ?_
    refine px_icge rfl (by decide) rfl (fun hc => ?_) (fun hc => ?_)
    · replace h := (if_pos hc).symm.trans h
      refine px_forget (n := 2) (lv' := [_, _, _, _, _, _]) rfl ?_
      exact (r_Scribe_numberSymbols_120 h :)
    · replace h := (if_neg hc).symm.trans h
      refine px_ld rfl rfl rfl rfl rfl ?_
      obtain ⟨t3, h0, h⟩ := xs_some h
      obtain ⟨fs, e1, e2⟩ := xgR_some h0
      refine px_get rfl e1 e2 rfl ?_
      refine px_ld rfl rfl rfl rfl rfl ?_
      obtain ⟨fs, h0, h⟩ := xs_some h
      have e1 := xo_some h0
      obtain ⟨t4, ph5, h0, h⟩ := xb_some h
      refine px_cV1 rfl rfl e1 rfl rfl rfl rfl rfl rfl rfl (r_Link_object h0 :) (fun _ _ q => nomatch q.2) (fun r ph' q => ?_)
      obtain ⟨rfl, q⟩ := q
      cases q
      refine px_st (lv' := [.ref a0, .int a1, .int a2, va_rf t4, px_u, px_u]) rfl rfl (by first | rfl | (cases t4 <;> rfl)) (by first | rfl | (cases t4 <;> rfl)) rfl (by first | rfl | (cases t4 <;> rfl)) rfl ?_
      refine px_ic (k := 0) rfl rfl rfl ?_
      refine px_st (lv' := [.ref a0, .int a1, .int a2, va_rf t4, .int (nI 0), px_u]) rfl rfl rfl rfl (by first | rfl | (cases t4 <;> rfl)) rfl rfl ?_
      exact (r_Scribe_numberSymbols_27 @ih _ h :)
def f_Scribe_numberSymbols (F : Nat) (c : px_CT) (a0 : Nat) (ph : px_H) : Option (Int32 × px_H) :=
  f_Scribe_numberSymbols_4 F c F a0 (nI 1) (nI 0) ph
theorem r_Scribe_numberSymbols {l : Launch} {g : px_G} {d F : Nat} {a0 : Nat} {ph : px_H} {r : Int32} {ph' : px_H} (h : f_Scribe_numberSymbols F (px_ct g) a0 ph = some (r, ph')) : PW l g (d + 1) m_Scribe_numberSymbols 0 [.ref a0, px_u, px_u, px_u, px_u, px_u] [] ph (px_qI r ph') := by
  unfold f_Scribe_numberSymbols at h
  refine px_ic (k := 1) rfl rfl rfl ?_
  refine px_st (lv' := [_, _, _, _, _, _]) rfl rfl rfl rfl rfl rfl rfl ?_
  refine px_ic (k := 0) rfl rfl rfl ?_
  refine px_st (lv' := [_, _, _, _, _, _]) rfl rfl rfl rfl rfl rfl rfl ?_
  exact (r_Scribe_numberSymbols_4 _ h :)
def f_ObjectFile_flagsOf (F : Nat) (c : px_CT) (a0 : Nat) (a1 : Int32) (ph : px_H) : Option (Int64 × px_H) :=
  (xgI ph 7 7 a0).bind fun t1 =>
  (xo ph 7 a0).bind fun _ =>
  xb (f_ObjectFile_num F c a0 ((t1 + ((nI 64) * a1)) + (nI 8)) (nI 8) ph) fun t2 ph3 =>
  some (t2, ph3)
theorem r_ObjectFile_flagsOf {l : Launch} {g : px_G} {d F : Nat} {a0 : Nat} {a1 : Int32} {ph : px_H} {r : Int64} {ph' : px_H} (h : f_ObjectFile_flagsOf F (px_ct g) a0 a1 ph = some (r, ph')) : PW l g (d + 1) m_ObjectFile_flagsOf 0 [.ref a0, .int a1] [] ph (px_qJ r ph') := by
  unfold f_ObjectFile_flagsOf at h
  refine px_ld rfl rfl rfl rfl rfl ?_
  refine px_ld rfl rfl rfl rfl rfl ?_
  obtain ⟨t1, h0, h⟩ := xs_some h
  obtain ⟨fs, e1, e2⟩ := xgI_some h0
  refine px_get rfl e1 e2 rfl ?_
  refine px_ic (k := 64) rfl rfl rfl ?_
  refine px_ld rfl rfl rfl rfl rfl ?_
  refine px_alu rfl rfl rfl ?_
  refine px_alu rfl rfl rfl ?_
  refine px_ic (k := 8) rfl rfl rfl ?_
  refine px_alu rfl rfl rfl ?_
  refine px_ic (k := 8) rfl rfl rfl ?_
  obtain ⟨fs, h0, h⟩ := xs_some h
  have e1 := xo_some h0
  obtain ⟨t2, ph3, h0, h⟩ := xb_some h
  refine px_cV2 rfl rfl e1 rfl rfl rfl rfl rfl rfl rfl (r_ObjectFile_num h0 :) (fun _ _ q => nomatch q.2) (fun r ph' q => ?_)
  obtain ⟨rfl, q⟩ := q
  cases q
  cases h
  exact px_lret rfl rfl rfl ⟨rfl, rfl⟩
def f_Scribe_nextPlace (F : Nat) (c : px_CT) (a0 : Nat) (ph : px_H) : Option (Int32 × px_H) :=
  (xgI ph 10 1 a0).bind fun t1 =>
  xb (f_H_up F c t1.toInt64 ((8 : Int64)) ph) fun t2 ph3 =>
  (xo ph3 10 a0).bind fun _ =>
  xb (f_Row_fillTo F c a0 t2 (nI 0) ph3) fun _ ph4 =>
  (xgI ph4 10 1 a0).bind fun t5 =>
  some (t5, ph4)
theorem r_Scribe_nextPlace {l : Launch} {g : px_G} {d F : Nat} {a0 : Nat} {ph : px_H} {r : Int32} {ph' : px_H} (h : f_Scribe_nextPlace F (px_ct g) a0 ph = some (r, ph')) : PW l g (d + 4) m_Scribe_nextPlace 0 [.ref a0] [] ph (px_qI r ph') := by
  unfold f_Scribe_nextPlace at h
  refine px_ld rfl rfl rfl rfl rfl ?_
  refine px_ld rfl rfl rfl rfl rfl ?_
  obtain ⟨t1, h0, h⟩ := xs_some h
  obtain ⟨fs, e1, e2⟩ := xgI_some h0
  refine px_get rfl e1 e2 rfl ?_
  refine px_alu rfl rfl rfl ?_
  refine px_ldc2 rfl rfl rfl ?_
  obtain ⟨t2, ph3, h0, h⟩ := xb_some h
  refine px_cS2 rfl rfl rfl rfl rfl rfl rfl (r_H_up h0 :) (fun _ _ q => nomatch q.2) (fun r ph' q => ?_)
  obtain ⟨rfl, q⟩ := q
  cases q
  refine px_ic (k := 0) rfl rfl rfl ?_
  obtain ⟨fs, h0, h⟩ := xs_some h
  have e1 := xo_some h0
  obtain ⟨u0, ph4, h0, h⟩ := xb_some h
  refine px_cV2 rfl rfl e1 rfl rfl rfl rfl rfl rfl rfl (r_Row_fillTo h0 :) (fun _ _ q => nomatch q.2) (fun r ph' q => ?_)
  obtain ⟨rfl, q⟩ := q
  cases q
  refine px_ld rfl rfl rfl rfl rfl ?_
  obtain ⟨t5, h0, h⟩ := xs_some h
  obtain ⟨fs, e1, e2⟩ := xgI_some h0
  refine px_get rfl e1 e2 rfl ?_
  cases h
  exact px_iret rfl (Or.inl rfl) rfl ⟨rfl, rfl⟩
def f_Scribe_putRow (F : Nat) (c : px_CT) (a0 : Nat) (a1 : Int64) (a3 : Int64) (a5 : Int64) (a7 : Int64) (a9 : Int32) (a10 : Int32) (ph : px_H) : Option (Unit × px_H) :=
  (xgR ph 11 3 a0).bind fun t1 =>
  (xo ph 10 t1).bind fun _ =>
  xb (f_Row_put F c t1 (nI 4) (lN 0) ph) fun _ ph2 =>
  (xgR ph2 11 3 a0).bind fun t3 =>
  (xo ph2 10 t3).bind fun _ =>
  xb (f_Row_put F c t3 (nI 4) a1 ph2) fun _ ph4 =>
  (xgR ph4 11 3 a0).bind fun t5 =>
  (xo ph4 10 t5).bind fun _ =>
  xb (f_Row_put F c t5 (nI 8) a3 ph4) fun _ ph6 =>
  (xgR ph6 11 3 a0).bind fun t7 =>
  (xo ph6 10 t7).bind fun _ =>
  xb (f_Row_put F c t7 (nI 8) (lN 0) ph6) fun _ ph8 =>
  (xgR ph8 11 3 a0).bind fun t9 =>
  (xo ph8 10 t9).bind fun _ =>
  xb (f_Row_put F c t9 (nI 8) a5 ph8) fun _ ph10 =>
  (xgR ph10 11 3 a0).bind fun t11 =>
  (xo ph10 10 t11).bind fun _ =>
  xb (f_Row_put F c t11 (nI 8) a7 ph10) fun _ ph12 =>
  (xgR ph12 11 3 a0).bind fun t13 =>
  (xo ph12 10 t13).bind fun _ =>
  xb (f_Row_put F c t13 (nI 4) a9.toInt64 ph12) fun _ ph14 =>
  (xgR ph14 11 3 a0).bind fun t15 =>
  (xo ph14 10 t15).bind fun _ =>
  xb (f_Row_put F c t15 (nI 4) a10.toInt64 ph14) fun _ ph16 =>
  some ((), ph16)
theorem r_Scribe_putRow {l : Launch} {g : px_G} {d F : Nat} {a0 : Nat} {a1 : Int64} {a3 : Int64} {a5 : Int64} {a7 : Int64} {a9 : Int32} {a10 : Int32} {ph : px_H} {r : Unit} {ph' : px_H} (h : f_Scribe_putRow F (px_ct g) a0 a1 a3 a5 a7 a9 a10 ph = some (r, ph')) : PW l g (d + 1) m_Scribe_putRow 0 [.ref a0, .long a1, px_u, .long a3, px_u, .long a5, px_u, .long a7, px_u, .int a9, .int a10] [] ph (px_qV r ph') := by
  unfold f_Scribe_putRow at h
  refine px_ld rfl rfl rfl rfl rfl ?_
  obtain ⟨t1, h0, h⟩ := xs_some h
  obtain ⟨fs, e1, e2⟩ := xgR_some h0
  refine px_get rfl e1 e2 rfl ?_
  refine px_ic (k := 4) rfl rfl rfl ?_
  refine px_alu rfl rfl rfl ?_
  obtain ⟨fs, h0, h⟩ := xs_some h
  have e1 := xo_some h0
  obtain ⟨u0, ph2, h0, h⟩ := xb_some h
  refine px_cV2 rfl rfl e1 rfl rfl rfl rfl rfl rfl rfl (r_Row_put h0 :) (fun _ _ q => nomatch q.2) (fun r ph' q => ?_)
  obtain ⟨rfl, q⟩ := q
  cases q
  refine px_ld rfl rfl rfl rfl rfl ?_
  obtain ⟨t3, h0, h⟩ := xs_some h
  obtain ⟨fs, e1, e2⟩ := xgR_some h0
  refine px_get rfl e1 e2 rfl ?_
  refine px_ic (k := 4) rfl rfl rfl ?_
  refine px_ld rfl rfl rfl rfl rfl ?_
  obtain ⟨fs, h0, h⟩ := xs_some h
  have e1 := xo_some h0
  obtain ⟨u0, ph4, h0, h⟩ := xb_some h
  refine px_cV2 rfl rfl e1 rfl rfl rfl rfl rfl rfl rfl (r_Row_put h0 :) (fun _ _ q => nomatch q.2) (fun r ph' q => ?_)
  obtain ⟨rfl, q⟩ := q
  cases q
  refine px_ld rfl rfl rfl rfl rfl ?_
  obtain ⟨t5, h0, h⟩ := xs_some h
  obtain ⟨fs, e1, e2⟩ := xgR_some h0
  refine px_get rfl e1 e2 rfl ?_
  refine px_ic (k := 8) rfl rfl rfl ?_
  refine px_ld rfl rfl rfl rfl rfl ?_
  obtain ⟨fs, h0, h⟩ := xs_some h
  have e1 := xo_some h0
  obtain ⟨u0, ph6, h0, h⟩ := xb_some h
  refine px_cV2 rfl rfl e1 rfl rfl rfl rfl rfl rfl rfl (r_Row_put h0 :) (fun _ _ q => nomatch q.2) (fun r ph' q => ?_)
  obtain ⟨rfl, q⟩ := q
  cases q
  refine px_ld rfl rfl rfl rfl rfl ?_
  obtain ⟨t7, h0, h⟩ := xs_some h
  obtain ⟨fs, e1, e2⟩ := xgR_some h0
  refine px_get rfl e1 e2 rfl ?_
  refine px_ic (k := 8) rfl rfl rfl ?_
  refine px_alu rfl rfl rfl ?_
  obtain ⟨fs, h0, h⟩ := xs_some h
  have e1 := xo_some h0
  obtain ⟨u0, ph8, h0, h⟩ := xb_some h
  refine px_cV2 rfl rfl e1 rfl rfl rfl rfl rfl rfl rfl (r_Row_put h0 :) (fun _ _ q => nomatch q.2) (fun r ph' q => ?_)
  obtain ⟨rfl, q⟩ := q
  cases q
  refine px_ld rfl rfl rfl rfl rfl ?_
  obtain ⟨t9, h0, h⟩ := xs_some h
  obtain ⟨fs, e1, e2⟩ := xgR_some h0
  refine px_get rfl e1 e2 rfl ?_
  refine px_ic (k := 8) rfl rfl rfl ?_
  refine px_ld rfl rfl rfl rfl rfl ?_
  obtain ⟨fs, h0, h⟩ := xs_some h
  have e1 := xo_some h0
  obtain ⟨u0, ph10, h0, h⟩ := xb_some h
  refine px_cV2 rfl rfl e1 rfl rfl rfl rfl rfl rfl rfl (r_Row_put h0 :) (fun _ _ q => nomatch q.2) (fun r ph' q => ?_)
  obtain ⟨rfl, q⟩ := q
  cases q
  refine px_ld rfl rfl rfl rfl rfl ?_
  obtain ⟨t11, h0, h⟩ := xs_some h
  obtain ⟨fs, e1, e2⟩ := xgR_some h0
  refine px_get rfl e1 e2 rfl ?_
  refine px_ic (k := 8) rfl rfl rfl ?_
  refine px_ld rfl rfl rfl rfl rfl ?_
  obtain ⟨fs, h0, h⟩ := xs_some h
  have e1 := xo_some h0
  obtain ⟨u0, ph12, h0, h⟩ := xb_some h
  refine px_cV2 rfl rfl e1 rfl rfl rfl rfl rfl rfl rfl (r_Row_put h0 :) (fun _ _ q => nomatch q.2) (fun r ph' q => ?_)
  obtain ⟨rfl, q⟩ := q
  cases q
  refine px_ld rfl rfl rfl rfl rfl ?_
  obtain ⟨t13, h0, h⟩ := xs_some h
  obtain ⟨fs, e1, e2⟩ := xgR_some h0
  refine px_get rfl e1 e2 rfl ?_
  refine px_ic (k := 4) rfl rfl rfl ?_
  refine px_ld rfl rfl rfl rfl rfl ?_
  refine px_alu rfl rfl rfl ?_
  obtain ⟨fs, h0, h⟩ := xs_some h
  have e1 := xo_some h0
  obtain ⟨u0, ph14, h0, h⟩ := xb_some h
  refine px_cV2 rfl rfl e1 rfl rfl rfl rfl rfl rfl rfl (r_Row_put h0 :) (fun _ _ q => nomatch q.2) (fun r ph' q => ?_)
  obtain ⟨rfl, q⟩ := q
  cases q
  refine px_ld rfl rfl rfl rfl rfl ?_
  obtain ⟨t15, h0, h⟩ := xs_some h
  obtain ⟨fs, e1, e2⟩ := xgR_some h0
  refine px_get rfl e1 e2 rfl ?_
  refine px_ic (k := 4) rfl rfl rfl ?_
  refine px_ld rfl rfl rfl rfl rfl ?_
  refine px_alu rfl rfl rfl ?_
  obtain ⟨fs, h0, h⟩ := xs_some h
  have e1 := xo_some h0
  obtain ⟨u0, ph16, h0, h⟩ := xb_some h
  refine px_cV2 rfl rfl e1 rfl rfl rfl rfl rfl rfl rfl (r_Row_put h0 :) (fun _ _ q => nomatch q.2) (fun r ph' q => ?_)
  obtain ⟨rfl, q⟩ := q
  cases q
  cases h
  exact px_vret rfl rfl rfl ⟨rfl, rfl⟩
def f_Scribe_endRow (F : Nat) (c : px_CT) (a0 : Nat) (a1 : Int64) (a3 : Int32) (ph : px_H) : Option (Unit × px_H) :=
  (xgR ph 11 3 a0).bind fun t1 =>
  (xo ph 10 t1).bind fun _ =>
  xb (f_Row_put F c t1 (nI 8) a1 ph) fun _ ph2 =>
  (xgR ph2 11 3 a0).bind fun t3 =>
  (xo ph2 10 t3).bind fun _ =>
  xb (f_Row_put F c t3 (nI 8) a3.toInt64 ph2) fun _ ph4 =>
  some ((), ph4)
theorem r_Scribe_endRow {l : Launch} {g : px_G} {d F : Nat} {a0 : Nat} {a1 : Int64} {a3 : Int32} {ph : px_H} {r : Unit} {ph' : px_H} (h : f_Scribe_endRow F (px_ct g) a0 a1 a3 ph = some (r, ph')) : PW l g (d + 1) m_Scribe_endRow 0 [.ref a0, .long a1, px_u, .int a3] [] ph (px_qV r ph') := by
  unfold f_Scribe_endRow at h
  refine px_ld rfl rfl rfl rfl rfl ?_
  obtain ⟨t1, h0, h⟩ := xs_some h
  obtain ⟨fs, e1, e2⟩ := xgR_some h0
  refine px_get rfl e1 e2 rfl ?_
  refine px_ic (k := 8) rfl rfl rfl ?_
  refine px_ld rfl rfl rfl rfl rfl ?_
  obtain ⟨fs, h0, h⟩ := xs_some h
  have e1 := xo_some h0
  obtain ⟨u0, ph2, h0, h⟩ := xb_some h
  refine px_cV2 rfl rfl e1 rfl rfl rfl rfl rfl rfl rfl (r_Row_put h0 :) (fun _ _ q => nomatch q.2) (fun r ph' q => ?_)
  obtain ⟨rfl, q⟩ := q
  cases q
  refine px_ld rfl rfl rfl rfl rfl ?_
  obtain ⟨t3, h0, h⟩ := xs_some h
  obtain ⟨fs, e1, e2⟩ := xgR_some h0
  refine px_get rfl e1 e2 rfl ?_
  refine px_ic (k := 8) rfl rfl rfl ?_
  refine px_ld rfl rfl rfl rfl rfl ?_
  refine px_alu rfl rfl rfl ?_
  obtain ⟨fs, h0, h⟩ := xs_some h
  have e1 := xo_some h0
  obtain ⟨u0, ph4, h0, h⟩ := xb_some h
  refine px_cV2 rfl rfl e1 rfl rfl rfl rfl rfl rfl rfl (r_Row_put h0 :) (fun _ _ q => nomatch q.2) (fun r ph' q => ?_)
  obtain ⟨rfl, q⟩ := q
  cases q
  cases h
  exact px_vret rfl rfl rfl ⟨rfl, rfl⟩
def f_Scribe_mergeParts_121 (F : Nat) (c : px_CT) (ph : px_H) : Option (Unit × px_H) :=
  some ((), ph)
theorem r_Scribe_mergeParts_121 {l : Launch} {g : px_G} {d F : Nat} {ph : px_H} {r : Unit} {ph' : px_H} (h : f_Scribe_mergeParts_121 F (px_ct g) ph = some (r, ph')) : PW l g (d + 5) m_Scribe_mergeParts 121 [px_u, px_u, px_u, px_u, px_u, px_u, px_u, px_u] [] ph (px_qV r ph') := by
  unfold f_Scribe_mergeParts_121 at h
  cases h
  exact px_vret rfl rfl rfl ⟨rfl, rfl⟩
def f_Scribe_mergeParts_115 (F : Nat) (c : px_CT) (k12 : Nat → Nat → Int32 → Option Nat → Int32 → px_H → Option (Unit × px_H)) (a0 : Nat) (a1 : Nat) (a2 : Int32) (a3 : Option Nat) (a4 : Int32) (ph : px_H) : Option (Unit × px_H) :=
  k12 a0 a1 a2 a3 (a4 + nI 1) ph
theorem r_Scribe_mergeParts_115 {l : Launch} {g : px_G} {d F : Nat} {k12 : Nat → Nat → Int32 → Option Nat → Int32 → px_H → Option (Unit × px_H)} (hk12 : ∀ {a0 : Nat} {a1 : Nat} {a2 : Int32} {a3 : Option Nat} {a4 : Int32} {ph : px_H} {r : Unit} {ph' : px_H}, k12 a0 a1 a2 a3 a4 ph = some (r, ph') → PW l g (d + 5) m_Scribe_mergeParts 12 [.ref a0, .ref a1, .int a2, va_rf a3, .int a4, px_u, px_u, px_u] [] ph (px_qV r ph')) {a0 : Nat} {a1 : Nat} {a2 : Int32} {a3 : Option Nat} {a4 : Int32} {ph : px_H} {r : Unit} {ph' : px_H} (h : f_Scribe_mergeParts_115 F (px_ct g) k12 a0 a1 a2 a3 a4 ph = some (r, ph')) : PW l g (d + 5) m_Scribe_mergeParts 115 [.ref a0, .ref a1, .int a2, va_rf a3, .int a4, px_u, px_u, px_u] [] ph (px_qV r ph') := by
  unfold f_Scribe_mergeParts_115 at h
  refine px_iinc (lv' := [_, _, _, _, _, _, _, _]) rfl rfl rfl (by first | rfl | (cases a3 <;> rfl)) rfl rfl ?_
  refine px_goto rfl (by decide) rfl ?_
  exact (hk12 h :)
def f_Scribe_mergeParts_12 (F : Nat) (c : px_CT) : Nat → Nat → Nat → Int32 → Option Nat → Int32 → px_H → Option (Unit × px_H)
  | 0, _, _, _, _, _, _ => none
  | n + 1, a0, a1, a2, a3, a4, ph =>
    (a3).bind fun p1 =>
    (xgI ph 7 8 p1).bind fun t2 =>
    if t2 ≤ a4 then
      f_Scribe_mergeParts_121 F c ph
    else
      (xgR ph 11 0 a0).bind fun t3 =>
      (xo ph 3 t3).bind fun _ =>
      xb (f_Link_part F c t3 a2 a4 ph) fun t4 ph5 =>
      (t4).bind fun p6 =>
      (xgI ph5 8 9 p6).bind fun t7 =>
      if t7 = 0 then
        f_Scribe_mergeParts_115 F c (f_Scribe_mergeParts_12 F c n) a0 a1 a2 (some p1) a4 ph5
      else
        (xo ph5 7 p1).bind fun _ =>
        xb (f_ObjectFile_typeOf F c p1 a4 ph5) fun t8 ph9 =>
        (xo ph9 7 p1).bind fun _ =>
        xb (f_ObjectFile_flagsOf F c p1 a4 ph9) fun t10 ph11 =>
        xb (f_Scribe_nextPlace F c a1 ph11) fun t12 ph13 =>
        (xgI ph13 8 5 p6).bind fun t14 =>
        (xo ph13 11 a0).bind fun _ =>
        xb (f_Scribe_putRow F c a0 t8 t10 t12.toInt64 t14.toInt64 (nI 0) (nI 0) ph13) fun _ ph15 =>
        (xo ph15 7 p1).bind fun _ =>
        xb (f_ObjectFile_alignOf F c p1 a4 ph15) fun t16 ph17 =>
        (xo ph17 11 a0).bind fun _ =>
        xb (f_Scribe_endRow F c a0 t16 (nI 0) ph17) fun _ ph18 =>
        if t8 = ((8 : Int64)) then
          f_Scribe_mergeParts_115 F c (f_Scribe_mergeParts_12 F c n) a0 a1 a2 (some p1) a4 ph18
        else
          (xgR ph18 11 2 a0).bind fun t19 =>
          (xgR ph18 10 0 t19).bind fun t20 =>
          (xgI ph18 8 7 p6).bind fun t21 =>
          (xgI ph18 8 5 p6).bind fun t22 =>
          (xo ph18 10 a1).bind fun _ =>
          xb (f_Row_copy F c a1 t20 t21 t22 ph18) fun _ ph23 =>
          f_Scribe_mergeParts_115 F c (f_Scribe_mergeParts_12 F c n) a0 a1 a2 (some p1) a4 ph23
theorem r_Scribe_mergeParts_12 {l : Launch} {g : px_G} {d F : Nat} : ∀ (n : Nat) {a0 : Nat} {a1 : Nat} {a2 : Int32} {a3 : Option Nat} {a4 : Int32} {ph : px_H} {r : Unit} {ph' : px_H}, f_Scribe_mergeParts_12 F (px_ct g) n a0 a1 a2 a3 a4 ph = some (r, ph') → PW l g (d + 5) m_Scribe_mergeParts 12 [.ref a0, .ref a1, .int a2, va_rf a3, .int a4, px_u, px_u, px_u] [] ph (px_qV r ph') := by
  intro n
  induction n with
  | zero => intro _ _ _ _ _ _ _ _ h; cases h
  | succ n ih =>
    intro a0 a1 a2 a3 a4 ph r ph' h
    unfold f_Scribe_mergeParts_12 at h
    refine px_ld rfl rfl rfl rfl rfl ?_
    refine px_ld rfl rfl rfl (by first | rfl | (cases a3 <;> rfl)) rfl ?_
    obtain ⟨p1, h0, h⟩ := xs_some h
    revert h
    subst h0
    intro h
    obtain ⟨t2, h0, h⟩ := xs_some h
    obtain ⟨fs, e1, e2⟩ := xgI_some h0
    refine px_get rfl e1 e2 rfl ?_
    refine px_icge rfl (by decide) rfl (fun hc => ?_) (fun hc => ?_)
    · replace h := (if_pos hc).symm.trans h
      refine px_forget (n := 0) (lv' := [_, _, _, _, _, _, _, _]) rfl ?_
      refine px_forget (n := 1) (lv' := [_, _, _, _, _, _, _, _]) rfl ?_
      refine px_forget (n := 2) (lv' := [_, _, _, _, _, _, _, _]) rfl ?_
      refine px_forget (n := 3) (lv' := [_, _, _, _, _, _, _, _]) rfl ?_
      refine px_forget (n := 4) (lv' := [_, _, _, _, _, _, _, _]) rfl ?_
      exact (r_Scribe_mergeParts_121 h :)
    · replace h := (if_neg hc).symm.trans h
      refine px_ld rfl rfl rfl rfl rfl ?_
      obtain ⟨t3, h0, h⟩ := xs_some h
      obtain ⟨fs, e1, e2⟩ := xgR_some h0
      refine px_get rfl e1 e2 rfl ?_
      refine px_ld rfl rfl rfl rfl rfl ?_
      refine px_ld rfl rfl rfl rfl rfl ?_
      obtain ⟨fs, h0, h⟩ := xs_some h
      have e1 := xo_some h0
      obtain ⟨t4, ph5, h0, h⟩ := xb_some h
      refine px_cV2 rfl rfl e1 rfl rfl rfl rfl rfl rfl rfl (r_Link_part h0 :) (fun _ _ q => nomatch q.2) (fun r ph' q => ?_)
      obtain ⟨rfl, q⟩ := q
      cases q
      refine px_st (lv' := [.ref a0, .ref a1, .int a2, .ref p1, .int a4, va_rf t4, px_u, px_u]) rfl rfl (by first | rfl | (cases t4 <;> rfl)) (by first | rfl | (cases t4 <;> rfl)) rfl (by first | rfl | (cases t4 <;> rfl)) rfl ?_
      refine px_ld rfl rfl rfl (by first | rfl | (cases t4 <;> rfl)) rfl ?_
      obtain ⟨p6, h0, h⟩ := xs_some h
      revert h
      subst h0
      intro h
      obtain ⟨t7, h0, h⟩ := xs_some h
      obtain ⟨fs, e1, e2⟩ := xgI_some h0
      refine px_get rfl e1 e2 rfl ?_
      refine px_ifeq rfl (by decide) rfl (fun hc => ?_) (fun hc => ?_)
      · replace h := (if_pos hc).symm.trans h
        refine px_forget (n := 5) (lv' := [_, _, _, _, _, _, _, _]) rfl ?_
        exact (r_Scribe_mergeParts_115 @ih h :)
      · replace h := (if_neg hc).symm.trans h
        refine px_ld rfl rfl rfl rfl rfl ?_
        refine px_ld rfl rfl rfl rfl rfl ?_
        obtain ⟨fs, h0, h⟩ := xs_some h
        have e1 := xo_some h0
        obtain ⟨t8, ph9, h0, h⟩ := xb_some h
        refine px_cV1 rfl rfl e1 rfl rfl rfl rfl rfl rfl rfl (r_ObjectFile_typeOf h0 :) (fun _ _ q => nomatch q.2) (fun r ph' q => ?_)
        obtain ⟨rfl, q⟩ := q
        cases q
        refine px_st (lv' := [_, _, _, _, _, _, _, _]) rfl rfl rfl rfl rfl rfl rfl ?_
        refine px_ld rfl rfl rfl rfl rfl ?_
        refine px_ld rfl rfl rfl rfl rfl ?_
        refine px_ld rfl rfl rfl rfl rfl ?_
        refine px_ld rfl rfl rfl rfl rfl ?_
        obtain ⟨fs, h0, h⟩ := xs_some h
        have e1 := xo_some h0
        obtain ⟨t10, ph11, h0, h⟩ := xb_some h
        refine px_cV1 rfl rfl e1 rfl rfl rfl rfl rfl rfl rfl (r_ObjectFile_flagsOf h0 :) (fun _ _ q => nomatch q.2) (fun r ph' q => ?_)
        obtain ⟨rfl, q⟩ := q
        cases q
        refine px_ld rfl rfl rfl rfl rfl ?_
        obtain ⟨t12, ph13, h0, h⟩ := xb_some h
        refine px_cS1 rfl rfl rfl rfl rfl rfl rfl (r_Scribe_nextPlace h0 :) (fun _ _ q => nomatch q.2) (fun r ph' q => ?_)
        obtain ⟨rfl, q⟩ := q
        cases q
        refine px_alu rfl rfl rfl ?_
        refine px_ld rfl rfl rfl rfl rfl ?_
        obtain ⟨t14, h0, h⟩ := xs_some h
        obtain ⟨fs, e1, e2⟩ := xgI_some h0
        refine px_get rfl e1 e2 rfl ?_
        refine px_alu rfl rfl rfl ?_
        refine px_ic (k := 0) rfl rfl rfl ?_
        refine px_ic (k := 0) rfl rfl rfl ?_
        obtain ⟨fs, h0, h⟩ := xs_some h
        have e1 := xo_some h0
        obtain ⟨u0, ph15, h0, h⟩ := xb_some h
        refine px_cV6 rfl rfl e1 rfl rfl rfl rfl rfl rfl rfl (r_Scribe_putRow h0 :) (fun _ _ q => nomatch q.2) (fun r ph' q => ?_)
        obtain ⟨rfl, q⟩ := q
        cases q
        refine px_ld rfl rfl rfl rfl rfl ?_
        refine px_ld rfl rfl rfl rfl rfl ?_
        refine px_ld rfl rfl rfl rfl rfl ?_
        obtain ⟨fs, h0, h⟩ := xs_some h
        have e1 := xo_some h0
        obtain ⟨t16, ph17, h0, h⟩ := xb_some h
        refine px_cV1 rfl rfl e1 rfl rfl rfl rfl rfl rfl rfl (r_ObjectFile_alignOf h0 :) (fun _ _ q => nomatch q.2) (fun r ph' q => ?_)
        obtain ⟨rfl, q⟩ := q
        cases q
        refine px_ic (k := 0) rfl rfl rfl ?_
        obtain ⟨fs, h0, h⟩ := xs_some h
        have e1 := xo_some h0
        obtain ⟨u0, ph18, h0, h⟩ := xb_some h
        refine px_cV2 rfl rfl e1 rfl rfl rfl rfl rfl rfl rfl (r_Scribe_endRow h0 :) (fun _ _ q => nomatch q.2) (fun r ph' q => ?_)
        obtain ⟨rfl, q⟩ := q
        cases q
        refine px_ld rfl rfl rfl rfl rfl ?_
        refine px_ldc2 rfl rfl rfl ?_
        refine px_alu rfl rfl rfl ?_
        refine px_ifeq rfl (by decide) rfl (fun hc => ?_) (fun hc => ?_)
        · replace h := (if_pos ((lg_cmp_eq _ _).mp hc)).symm.trans h
          refine px_forget (n := 5) (lv' := [_, _, _, _, _, _, _, _]) rfl ?_
          refine px_forget (n := 6) (lv' := [_, _, _, _, _, _, _, _]) rfl ?_
          exact (r_Scribe_mergeParts_115 @ih h :)
        · replace h := (if_neg (fun q => hc ((lg_cmp_eq _ _).mpr q))).symm.trans h
          refine px_ld rfl rfl rfl rfl rfl ?_
          refine px_ld rfl rfl rfl rfl rfl ?_
          obtain ⟨t19, h0, h⟩ := xs_some h
          obtain ⟨fs, e1, e2⟩ := xgR_some h0
          refine px_get rfl e1 e2 rfl ?_
          obtain ⟨t20, h0, h⟩ := xs_some h
          obtain ⟨fs, e1, e2⟩ := xgR_some h0
          refine px_get rfl e1 e2 rfl ?_
          refine px_ld rfl rfl rfl rfl rfl ?_
          obtain ⟨t21, h0, h⟩ := xs_some h
          obtain ⟨fs, e1, e2⟩ := xgI_some h0
          refine px_get rfl e1 e2 rfl ?_
          refine px_ld rfl rfl rfl rfl rfl ?_
          obtain ⟨t22, h0, h⟩ := xs_some h
          obtain ⟨fs, e1, e2⟩ := xgI_some h0
          refine px_get rfl e1 e2 rfl ?_
          obtain ⟨fs, h0, h⟩ := xs_some h
          have e1 := xo_some h0
          obtain ⟨u0, ph23, h0, h⟩ := xb_some h
          refine px_cV3 rfl rfl e1 rfl rfl rfl rfl rfl rfl rfl (r_Row_copy h0 :) (fun _ _ q => nomatch q.2) (fun r ph' q => ?_)
          obtain ⟨rfl, q⟩ := q
          cases q
          refine px_forget (n := 5) (lv' := [_, _, _, _, _, _, _, _]) rfl ?_
          refine px_forget (n := 6) (lv' := [_, _, _, _, _, _, _, _]) rfl ?_
          exact (r_Scribe_mergeParts_115 @ih h :)
def f_Scribe_mergeParts (F : Nat) (c : px_CT) (a0 : Nat) (a1 : Nat) (a2 : Int32) (ph : px_H) : Option (Unit × px_H) :=
  (xgR ph 11 0 a0).bind fun t1 =>
  (xo ph 3 t1).bind fun _ =>
  xb (f_Link_object F c t1 a2 ph) fun t2 ph3 =>
  f_Scribe_mergeParts_12 F c F a0 a1 a2 t2 (nI 0) ph3
theorem r_Scribe_mergeParts {l : Launch} {g : px_G} {d F : Nat} {a0 : Nat} {a1 : Nat} {a2 : Int32} {ph : px_H} {r : Unit} {ph' : px_H} (h : f_Scribe_mergeParts F (px_ct g) a0 a1 a2 ph = some (r, ph')) : PW l g (d + 5) m_Scribe_mergeParts 0 [.ref a0, .ref a1, .int a2, px_u, px_u, px_u, px_u, px_u] [] ph (px_qV r ph') := by
  unfold f_Scribe_mergeParts at h
  refine px_ld rfl rfl rfl rfl rfl ?_
  obtain ⟨t1, h0, h⟩ := xs_some h
  obtain ⟨fs, e1, e2⟩ := xgR_some h0
  refine px_get rfl e1 e2 rfl ?_
  refine px_ld rfl rfl rfl rfl rfl ?_
  obtain ⟨fs, h0, h⟩ := xs_some h
  have e1 := xo_some h0
  obtain ⟨t2, ph3, h0, h⟩ := xb_some h
  refine px_cV1 rfl rfl e1 rfl rfl rfl rfl rfl rfl rfl (r_Link_object h0 :) (fun _ _ q => nomatch q.2) (fun r ph' q => ?_)
  obtain ⟨rfl, q⟩ := q
  cases q
  refine px_st (lv' := [.ref a0, .ref a1, .int a2, va_rf t2, px_u, px_u, px_u, px_u]) rfl rfl (by first | rfl | (cases t2 <;> rfl)) (by first | rfl | (cases t2 <;> rfl)) rfl (by first | rfl | (cases t2 <;> rfl)) rfl ?_
  refine px_ic (k := 0) rfl rfl rfl ?_
  refine px_st (lv' := [.ref a0, .ref a1, .int a2, va_rf t2, .int (nI 0), px_u, px_u, px_u]) rfl rfl rfl rfl (by first | rfl | (cases t2 <;> rfl)) rfl rfl ?_
  exact (r_Scribe_mergeParts_12 _ h :)
def f_Scribe_freshSymbol_53 (F : Nat) (c : px_CT) (s0 : Int32) (ph : px_H) : Option (Int32 × px_H) :=
  some (s0, ph)
theorem r_Scribe_freshSymbol_53 {l : Launch} {g : px_G} {d F : Nat} {s0 : Int32} {ph : px_H} {r : Int32} {ph' : px_H} (h : f_Scribe_freshSymbol_53 F (px_ct g) s0 ph = some (r, ph')) : PW l g (d + 1) m_Scribe_freshSymbol 53 [px_u, px_u, px_u, px_u, px_u] [.int s0] ph (px_qI r ph') := by
  unfold f_Scribe_freshSymbol_53 at h
  cases h
  exact px_iret rfl (Or.inl rfl) rfl ⟨rfl, rfl⟩
def f_Scribe_freshSymbol_52 (F : Nat) (c : px_CT) (ph : px_H) : Option (Int32 × px_H) :=
  f_Scribe_freshSymbol_53 F c (nI 0) ph
theorem r_Scribe_freshSymbol_52 {l : Launch} {g : px_G} {d F : Nat} {ph : px_H} {r : Int32} {ph' : px_H} (h : f_Scribe_freshSymbol_52 F (px_ct g) ph = some (r, ph')) : PW l g (d + 1) m_Scribe_freshSymbol 52 [px_u, px_u, px_u, px_u, px_u] [] ph (px_qI r ph') := by
  unfold f_Scribe_freshSymbol_52 at h
  refine px_ic (k := 0) rfl rfl rfl ?_
  exact (r_Scribe_freshSymbol_53 h :)
def f_Scribe_freshSymbol (F : Nat) (c : px_CT) (a0 : Nat) (a1 : Int32) (a2 : Int32) (ph : px_H) : Option (Int32 × px_H) :=
  (xgR ph 11 0 a0).bind fun t1 =>
  (xo ph 3 t1).bind fun _ =>
  xb (f_Link_nameOf F c t1 a1 a2 ph) fun t2 ph3 =>
  (match t2 with
    | none => if ((a1 * (nI 64)) + a2) < 0 then
      f_Scribe_freshSymbol_52 F c ph3
    else
      (xgR ph3 11 4 a0).bind fun t5 =>
      (xal ph3 1 t5).bind fun t6 =>
      if t6 ≤ ((a1 * (nI 64)) + a2) then
        f_Scribe_freshSymbol_52 F c ph3
      else
        (xgR ph3 11 4 a0).bind fun t7 =>
        (xaI ph3 1 t7 ((a1 * (nI 64)) + a2)).bind fun t8 =>
        f_Scribe_freshSymbol_53 F c t8 ph3
    | some p4 => (xgI ph3 5 17 p4).bind fun t9 =>
    some (t9, ph3))
theorem r_Scribe_freshSymbol {l : Launch} {g : px_G} {d F : Nat} {a0 : Nat} {a1 : Int32} {a2 : Int32} {ph : px_H} {r : Int32} {ph' : px_H} (h : f_Scribe_freshSymbol F (px_ct g) a0 a1 a2 ph = some (r, ph')) : PW l g (d + 1) m_Scribe_freshSymbol 0 [.ref a0, .int a1, .int a2, px_u, px_u] [] ph (px_qI r ph') := by
  unfold f_Scribe_freshSymbol at h
  refine px_ld rfl rfl rfl rfl rfl ?_
  obtain ⟨t1, h0, h⟩ := xs_some h
  obtain ⟨fs, e1, e2⟩ := xgR_some h0
  refine px_get rfl e1 e2 rfl ?_
  refine px_ld rfl rfl rfl rfl rfl ?_
  refine px_ld rfl rfl rfl rfl rfl ?_
  obtain ⟨fs, h0, h⟩ := xs_some h
  have e1 := xo_some h0
  obtain ⟨t2, ph3, h0, h⟩ := xb_some h
  refine px_cV2 rfl rfl e1 rfl rfl rfl rfl rfl rfl rfl (r_Link_nameOf h0 :) (fun _ _ q => nomatch q.2) (fun r ph' q => ?_)
  obtain ⟨rfl, q⟩ := q
  cases q
  refine px_st (lv' := [.ref a0, .int a1, .int a2, va_rf t2, px_u]) rfl rfl (by first | rfl | (cases t2 <;> rfl)) (by first | rfl | (cases t2 <;> rfl)) rfl (by first | rfl | (cases t2 <;> rfl)) rfl ?_
  refine px_ld rfl rfl rfl (by first | rfl | (cases t2 <;> rfl)) rfl ?_
  cases t2 with
  | none =>
    refine px_ifnullN rfl rfl rfl ?_
    refine px_ld rfl rfl rfl rfl rfl ?_
    refine px_ic (k := 64) rfl rfl rfl ?_
    refine px_alu rfl rfl rfl ?_
    refine px_ld rfl rfl rfl rfl rfl ?_
    refine px_alu rfl rfl rfl ?_
    refine px_st (lv' := [.ref a0, .int a1, .int a2, va_rf none, .int ((a1 * (nI 64)) + a2)]) rfl rfl rfl rfl (by first | rfl | (cases none <;> rfl)) rfl rfl ?_
    refine px_ld rfl rfl rfl rfl rfl ?_
    refine px_iflt rfl rfl rfl (fun hc => ?_) (fun hc => ?_)
    · replace h := (if_pos hc).symm.trans h
      refine px_forget (n := 0) (lv' := [_, _, _, _, _]) rfl ?_
      refine px_forget (n := 1) (lv' := [_, _, _, _, _]) rfl ?_
      refine px_forget (n := 2) (lv' := [_, _, _, _, _]) rfl ?_
      refine px_forget (n := 3) (lv' := [_, _, _, _, _]) rfl ?_
      refine px_forget (n := 4) (lv' := [_, _, _, _, _]) rfl ?_
      exact (r_Scribe_freshSymbol_52 h :)
    · replace h := (if_neg hc).symm.trans h
      refine px_ld rfl rfl rfl rfl rfl ?_
      refine px_ld rfl rfl rfl rfl rfl ?_
      obtain ⟨t5, h0, h⟩ := xs_some h
      obtain ⟨fs, e1, e2⟩ := xgR_some h0
      refine px_get rfl e1 e2 rfl ?_
      obtain ⟨t6, h0, h⟩ := xs_some h
      obtain ⟨x, e1, e3⟩ := xal_some h0
      subst e3
      refine px_alen rfl e1 rfl rfl ?_
      refine px_icge rfl rfl rfl (fun hc => ?_) (fun hc => ?_)
      · replace h := (if_pos hc).symm.trans h
        refine px_forget (n := 0) (lv' := [_, _, _, _, _]) rfl ?_
        refine px_forget (n := 1) (lv' := [_, _, _, _, _]) rfl ?_
        refine px_forget (n := 2) (lv' := [_, _, _, _, _]) rfl ?_
        refine px_forget (n := 3) (lv' := [_, _, _, _, _]) rfl ?_
        refine px_forget (n := 4) (lv' := [_, _, _, _, _]) rfl ?_
        exact (r_Scribe_freshSymbol_52 h :)
      · replace h := (if_neg hc).symm.trans h
        refine px_ld rfl rfl rfl rfl rfl ?_
        obtain ⟨t7, h0, h⟩ := xs_some h
        obtain ⟨fs, e1, e2⟩ := xgR_some h0
        refine px_get rfl e1 e2 rfl ?_
        refine px_ld rfl rfl rfl rfl rfl ?_
        obtain ⟨t8, h0, h⟩ := xs_some h
        obtain ⟨N, f, e1, e2, e3⟩ := xaI_some h0
        subst e3
        refine px_iald rfl e1 rfl e2 rfl ?_
        refine px_goto rfl rfl rfl ?_
        refine px_forget (n := 0) (lv' := [_, _, _, _, _]) rfl ?_
        refine px_forget (n := 1) (lv' := [_, _, _, _, _]) rfl ?_
        refine px_forget (n := 2) (lv' := [_, _, _, _, _]) rfl ?_
        refine px_forget (n := 3) (lv' := [_, _, _, _, _]) rfl ?_
        refine px_forget (n := 4) (lv' := [_, _, _, _, _]) rfl ?_
        exact (r_Scribe_freshSymbol_53 h :)
  | some p4 =>
    refine px_ifnullR rfl rfl ?_
    refine px_ld rfl rfl rfl rfl rfl ?_
    obtain ⟨t9, h0, h⟩ := xs_some h
    obtain ⟨fs, e1, e2⟩ := xgI_some h0
    refine px_get rfl e1 e2 rfl ?_
    cases h
    exact px_iret rfl (Or.inl rfl) rfl ⟨rfl, rfl⟩
def f_Scribe_mergeSites_188 (F : Nat) (c : px_CT) (ph : px_H) : Option (Unit × px_H) :=
  some ((), ph)
theorem r_Scribe_mergeSites_188 {l : Launch} {g : px_G} {d F : Nat} {ph : px_H} {r : Unit} {ph' : px_H} (h : f_Scribe_mergeSites_188 F (px_ct g) ph = some (r, ph')) : PW l g (d + 5) m_Scribe_mergeSites 188 [px_u, px_u, px_u, px_u, px_u, px_u, px_u, px_u, px_u] [] ph (px_qV r ph') := by
  unfold f_Scribe_mergeSites_188 at h
  cases h
  exact px_vret rfl rfl rfl ⟨rfl, rfl⟩
def f_Scribe_mergeSites_182 (F : Nat) (c : px_CT) (k12 : Nat → Nat → Int32 → Option Nat → Int32 → px_H → Option (Unit × px_H)) (a0 : Nat) (a1 : Nat) (a2 : Int32) (a3 : Option Nat) (a4 : Int32) (ph : px_H) : Option (Unit × px_H) :=
  k12 a0 a1 a2 a3 (a4 + nI 1) ph
theorem r_Scribe_mergeSites_182 {l : Launch} {g : px_G} {d F : Nat} {k12 : Nat → Nat → Int32 → Option Nat → Int32 → px_H → Option (Unit × px_H)} (hk12 : ∀ {a0 : Nat} {a1 : Nat} {a2 : Int32} {a3 : Option Nat} {a4 : Int32} {ph : px_H} {r : Unit} {ph' : px_H}, k12 a0 a1 a2 a3 a4 ph = some (r, ph') → PW l g (d + 5) m_Scribe_mergeSites 12 [.ref a0, .ref a1, .int a2, va_rf a3, .int a4, px_u, px_u, px_u, px_u] [] ph (px_qV r ph')) {a0 : Nat} {a1 : Nat} {a2 : Int32} {a3 : Option Nat} {a4 : Int32} {ph : px_H} {r : Unit} {ph' : px_H} (h : f_Scribe_mergeSites_182 F (px_ct g) k12 a0 a1 a2 a3 a4 ph = some (r, ph')) : PW l g (d + 5) m_Scribe_mergeSites 182 [.ref a0, .ref a1, .int a2, va_rf a3, .int a4, px_u, px_u, px_u, px_u] [] ph (px_qV r ph') := by
  unfold f_Scribe_mergeSites_182 at h
  refine px_iinc (lv' := [_, _, _, _, _, _, _, _, _]) rfl rfl rfl (by first | rfl | (cases a3 <;> rfl)) rfl rfl ?_
  refine px_goto rfl (by decide) rfl ?_
  exact (hk12 h :)
def f_Scribe_mergeSites_98 (F : Nat) (c : px_CT) (k12 : Nat → Nat → Int32 → Option Nat → Int32 → px_H → Option (Unit × px_H)) : Nat → Nat → Nat → Int32 → Option Nat → Int32 → Int32 → Int32 → Int32 → px_H → Option (Unit × px_H)
  | 0, _, _, _, _, _, _, _, _, _ => none
  | n + 1, a0, a1, a2, a3, a4, a6, a7, a8, ph =>
    if a6 ≤ a8 then
      f_Scribe_mergeSites_182 F c k12 a0 a1 a2 a3 a4 ph
    else
      (a3).bind fun p1 =>
      (xo ph 7 p1).bind fun _ =>
      xb (f_ObjectFile_num F c p1 a7 (nI 8) ph) fun t2 ph3 =>
      (xo ph3 10 a1).bind fun _ =>
      xb (f_Row_put F c a1 (nI 8) t2 ph3) fun _ ph4 =>
      (xo ph4 7 p1).bind fun _ =>
      xb (f_ObjectFile_num F c p1 (a7 + (nI 8)) (nI 4) ph4) fun t5 ph6 =>
      (xo ph6 10 a1).bind fun _ =>
      xb (f_Row_put F c a1 (nI 4) t5 ph6) fun _ ph7 =>
      (xo ph7 7 p1).bind fun _ =>
      xb (f_ObjectFile_num F c p1 (a7 + (nI 12)) (nI 4) ph7) fun t8 ph9 =>
      (xo ph9 11 a0).bind fun _ =>
      xb (f_Scribe_freshSymbol F c a0 a2 t8.toInt32 ph9) fun t10 ph11 =>
      (xo ph11 10 a1).bind fun _ =>
      xb (f_Row_put F c a1 (nI 4) t10.toInt64 ph11) fun _ ph12 =>
      (xo ph12 7 p1).bind fun _ =>
      xb (f_ObjectFile_num F c p1 (a7 + (nI 16)) (nI 8) ph12) fun t13 ph14 =>
      (xo ph14 10 a1).bind fun _ =>
      xb (f_Row_put F c a1 (nI 8) t13 ph14) fun _ ph15 =>
      f_Scribe_mergeSites_98 F c k12 n a0 a1 a2 (some p1) a4 a6 (a7 + nI 24) (a8 + nI 1) ph15
theorem r_Scribe_mergeSites_98 {l : Launch} {g : px_G} {d F : Nat} {k12 : Nat → Nat → Int32 → Option Nat → Int32 → px_H → Option (Unit × px_H)} (hk12 : ∀ {a0 : Nat} {a1 : Nat} {a2 : Int32} {a3 : Option Nat} {a4 : Int32} {ph : px_H} {r : Unit} {ph' : px_H}, k12 a0 a1 a2 a3 a4 ph = some (r, ph') → PW l g (d + 5) m_Scribe_mergeSites 12 [.ref a0, .ref a1, .int a2, va_rf a3, .int a4, px_u, px_u, px_u, px_u] [] ph (px_qV r ph')) : ∀ (n : Nat) {a0 : Nat} {a1 : Nat} {a2 : Int32} {a3 : Option Nat} {a4 : Int32} {a6 : Int32} {a7 : Int32} {a8 : Int32} {ph : px_H} {r : Unit} {ph' : px_H}, f_Scribe_mergeSites_98 F (px_ct g) k12 n a0 a1 a2 a3 a4 a6 a7 a8 ph = some (r, ph') → PW l g (d + 5) m_Scribe_mergeSites 98 [.ref a0, .ref a1, .int a2, va_rf a3, .int a4, px_u, .int a6, .int a7, .int a8] [] ph (px_qV r ph') := by
  intro n
  induction n with
  | zero => intro _ _ _ _ _ _ _ _ _ _ _ h; cases h
  | succ n ih =>
    intro a0 a1 a2 a3 a4 a6 a7 a8 ph r ph' h
    unfold f_Scribe_mergeSites_98 at h
    refine px_ld rfl rfl rfl rfl rfl ?_
    refine px_ld rfl rfl rfl rfl rfl ?_
    refine px_icge rfl (by decide) rfl (fun hc => ?_) (fun hc => ?_)
    · replace h := (if_pos hc).symm.trans h
      refine px_forget (n := 6) (lv' := [_, _, _, _, _, _, _, _, _]) rfl ?_
      refine px_forget (n := 7) (lv' := [_, _, _, _, _, _, _, _, _]) rfl ?_
      refine px_forget (n := 8) (lv' := [_, _, _, _, _, _, _, _, _]) rfl ?_
      exact (r_Scribe_mergeSites_182 @hk12 h :)
    · replace h := (if_neg hc).symm.trans h
      refine px_ld rfl rfl rfl rfl rfl ?_
      refine px_ic (k := 8) rfl rfl rfl ?_
      refine px_ld rfl rfl rfl (by first | rfl | (cases a3 <;> rfl)) rfl ?_
      refine px_ld rfl rfl rfl rfl rfl ?_
      refine px_ic (k := 8) rfl rfl rfl ?_
      obtain ⟨p1, h0, h⟩ := xs_some h
      revert h
      subst h0
      intro h
      obtain ⟨fs, h0, h⟩ := xs_some h
      have e1 := xo_some h0
      obtain ⟨t2, ph3, h0, h⟩ := xb_some h
      refine px_cV2 rfl rfl e1 rfl rfl rfl rfl rfl rfl rfl (r_ObjectFile_num h0 :) (fun _ _ q => nomatch q.2) (fun r ph' q => ?_)
      obtain ⟨rfl, q⟩ := q
      cases q
      obtain ⟨fs, h0, h⟩ := xs_some h
      have e1 := xo_some h0
      obtain ⟨u0, ph4, h0, h⟩ := xb_some h
      refine px_cV2 rfl rfl e1 rfl rfl rfl rfl rfl rfl rfl (r_Row_put h0 :) (fun _ _ q => nomatch q.2) (fun r ph' q => ?_)
      obtain ⟨rfl, q⟩ := q
      cases q
      refine px_ld rfl rfl rfl rfl rfl ?_
      refine px_ic (k := 4) rfl rfl rfl ?_
      refine px_ld rfl rfl rfl rfl rfl ?_
      refine px_ld rfl rfl rfl rfl rfl ?_
      refine px_ic (k := 8) rfl rfl rfl ?_
      refine px_alu rfl rfl rfl ?_
      refine px_ic (k := 4) rfl rfl rfl ?_
      obtain ⟨fs, h0, h⟩ := xs_some h
      have e1 := xo_some h0
      obtain ⟨t5, ph6, h0, h⟩ := xb_some h
      refine px_cV2 rfl rfl e1 rfl rfl rfl rfl rfl rfl rfl (r_ObjectFile_num h0 :) (fun _ _ q => nomatch q.2) (fun r ph' q => ?_)
      obtain ⟨rfl, q⟩ := q
      cases q
      obtain ⟨fs, h0, h⟩ := xs_some h
      have e1 := xo_some h0
      obtain ⟨u0, ph7, h0, h⟩ := xb_some h
      refine px_cV2 rfl rfl e1 rfl rfl rfl rfl rfl rfl rfl (r_Row_put h0 :) (fun _ _ q => nomatch q.2) (fun r ph' q => ?_)
      obtain ⟨rfl, q⟩ := q
      cases q
      refine px_ld rfl rfl rfl rfl rfl ?_
      refine px_ic (k := 4) rfl rfl rfl ?_
      refine px_ld rfl rfl rfl rfl rfl ?_
      refine px_ld rfl rfl rfl rfl rfl ?_
      refine px_ld rfl rfl rfl rfl rfl ?_
      refine px_ld rfl rfl rfl rfl rfl ?_
      refine px_ic (k := 12) rfl rfl rfl ?_
      refine px_alu rfl rfl rfl ?_
      refine px_ic (k := 4) rfl rfl rfl ?_
      obtain ⟨fs, h0, h⟩ := xs_some h
      have e1 := xo_some h0
      obtain ⟨t8, ph9, h0, h⟩ := xb_some h
      refine px_cV2 rfl rfl e1 rfl rfl rfl rfl rfl rfl rfl (r_ObjectFile_num h0 :) (fun _ _ q => nomatch q.2) (fun r ph' q => ?_)
      obtain ⟨rfl, q⟩ := q
      cases q
      refine px_alu rfl rfl rfl ?_
      obtain ⟨fs, h0, h⟩ := xs_some h
      have e1 := xo_some h0
      obtain ⟨t10, ph11, h0, h⟩ := xb_some h
      refine px_cV2 rfl rfl e1 rfl rfl rfl rfl rfl rfl rfl (r_Scribe_freshSymbol h0 :) (fun _ _ q => nomatch q.2) (fun r ph' q => ?_)
      obtain ⟨rfl, q⟩ := q
      cases q
      refine px_alu rfl rfl rfl ?_
      obtain ⟨fs, h0, h⟩ := xs_some h
      have e1 := xo_some h0
      obtain ⟨u0, ph12, h0, h⟩ := xb_some h
      refine px_cV2 rfl rfl e1 rfl rfl rfl rfl rfl rfl rfl (r_Row_put h0 :) (fun _ _ q => nomatch q.2) (fun r ph' q => ?_)
      obtain ⟨rfl, q⟩ := q
      cases q
      refine px_ld rfl rfl rfl rfl rfl ?_
      refine px_ic (k := 8) rfl rfl rfl ?_
      refine px_ld rfl rfl rfl rfl rfl ?_
      refine px_ld rfl rfl rfl rfl rfl ?_
      refine px_ic (k := 16) rfl rfl rfl ?_
      refine px_alu rfl rfl rfl ?_
      refine px_ic (k := 8) rfl rfl rfl ?_
      obtain ⟨fs, h0, h⟩ := xs_some h
      have e1 := xo_some h0
      obtain ⟨t13, ph14, h0, h⟩ := xb_some h
      refine px_cV2 rfl rfl e1 rfl rfl rfl rfl rfl rfl rfl (r_ObjectFile_num h0 :) (fun _ _ q => nomatch q.2) (fun r ph' q => ?_)
      obtain ⟨rfl, q⟩ := q
      cases q
      obtain ⟨fs, h0, h⟩ := xs_some h
      have e1 := xo_some h0
      obtain ⟨u0, ph15, h0, h⟩ := xb_some h
      refine px_cV2 rfl rfl e1 rfl rfl rfl rfl rfl rfl rfl (r_Row_put h0 :) (fun _ _ q => nomatch q.2) (fun r ph' q => ?_)
      obtain ⟨rfl, q⟩ := q
      cases q
      refine px_iinc (lv' := [_, _, _, _, _, _, _, _, _]) rfl rfl rfl rfl rfl rfl ?_
      refine px_iinc (lv' := [_, _, _, _, _, _, _, _, _]) rfl rfl rfl rfl rfl rfl ?_
      refine px_goto rfl (by decide) rfl ?_
      exact (ih h :)
def f_Scribe_mergeSites_12 (F : Nat) (c : px_CT) : Nat → Nat → Nat → Int32 → Option Nat → Int32 → px_H → Option (Unit × px_H)
  | 0, _, _, _, _, _, _ => none
  | n + 1, a0, a1, a2, a3, a4, ph =>
    (a3).bind fun p1 =>
    (xgI ph 7 8 p1).bind fun t2 =>
    if t2 ≤ a4 then
      f_Scribe_mergeSites_188 F c ph
    else
      (xgR ph 11 0 a0).bind fun t3 =>
      (xo ph 3 t3).bind fun _ =>
      xb (f_Link_stayingTarget F c t3 a2 a4 ph) fun t4 ph5 =>
      (match t4 with
        | none => f_Scribe_mergeSites_182 F c (f_Scribe_mergeSites_12 F c n) a0 a1 a2 (some p1) a4 ph5
        | some p6 => (xo ph5 7 p1).bind fun _ =>
        xb (f_ObjectFile_sitesOf F c p1 a4 ph5) fun t7 ph8 =>
        (xo ph8 7 p1).bind fun _ =>
        xb (f_ObjectFile_placeOf F c p1 a4 ph8) fun t9 ph10 =>
        xb (f_Scribe_nextPlace F c a1 ph10) fun t11 ph12 =>
        (xgI ph12 11 8 a0).bind fun t13 =>
        (xgI ph12 8 12 p6).bind fun t14 =>
        (xo ph12 11 a0).bind fun _ =>
        xb (f_Scribe_putRow F c a0 ((4 : Int64)) (lN 0) t11.toInt64 (((nI 24) * t7).toInt64) t13 t14 ph12) fun _ ph15 =>
        (xo ph15 11 a0).bind fun _ =>
        xb (f_Scribe_endRow F c a0 ((8 : Int64)) (nI 24) ph15) fun _ ph16 =>
        f_Scribe_mergeSites_98 F c (f_Scribe_mergeSites_12 F c n) F a0 a1 a2 (some p1) a4 t7 t9.toInt32 (nI 0) ph16)
theorem r_Scribe_mergeSites_12 {l : Launch} {g : px_G} {d F : Nat} : ∀ (n : Nat) {a0 : Nat} {a1 : Nat} {a2 : Int32} {a3 : Option Nat} {a4 : Int32} {ph : px_H} {r : Unit} {ph' : px_H}, f_Scribe_mergeSites_12 F (px_ct g) n a0 a1 a2 a3 a4 ph = some (r, ph') → PW l g (d + 5) m_Scribe_mergeSites 12 [.ref a0, .ref a1, .int a2, va_rf a3, .int a4, px_u, px_u, px_u, px_u] [] ph (px_qV r ph') := by
  intro n
  induction n with
  | zero => intro _ _ _ _ _ _ _ _ h; cases h
  | succ n ih =>
    intro a0 a1 a2 a3 a4 ph r ph' h
    unfold f_Scribe_mergeSites_12 at h
    refine px_ld rfl rfl rfl rfl rfl ?_
    refine px_ld rfl rfl rfl (by first | rfl | (cases a3 <;> rfl)) rfl ?_
    obtain ⟨p1, h0, h⟩ := xs_some h
    revert h
    subst h0
    intro h
    obtain ⟨t2, h0, h⟩ := xs_some h
    obtain ⟨fs, e1, e2⟩ := xgI_some h0
    refine px_get rfl e1 e2 rfl ?_
    refine px_icge rfl (by decide) rfl (fun hc => ?_) (fun hc => ?_)
    · replace h := (if_pos hc).symm.trans h
      refine px_forget (n := 0) (lv' := [_, _, _, _, _, _, _, _, _]) rfl ?_
      refine px_forget (n := 1) (lv' := [_, _, _, _, _, _, _, _, _]) rfl ?_
      refine px_forget (n := 2) (lv' := [_, _, _, _, _, _, _, _, _]) rfl ?_
      refine px_forget (n := 3) (lv' := [_, _, _, _, _, _, _, _, _]) rfl ?_
      refine px_forget (n := 4) (lv' := [_, _, _, _, _, _, _, _, _]) rfl ?_
      exact (r_Scribe_mergeSites_188 h :)
    · replace h := (if_neg hc).symm.trans h
      refine px_ld rfl rfl rfl rfl rfl ?_
      obtain ⟨t3, h0, h⟩ := xs_some h
      obtain ⟨fs, e1, e2⟩ := xgR_some h0
      refine px_get rfl e1 e2 rfl ?_
      refine px_ld rfl rfl rfl rfl rfl ?_
      refine px_ld rfl rfl rfl rfl rfl ?_
      obtain ⟨fs, h0, h⟩ := xs_some h
      have e1 := xo_some h0
      obtain ⟨t4, ph5, h0, h⟩ := xb_some h
      refine px_cV2 rfl rfl e1 rfl rfl rfl rfl rfl rfl rfl (r_Link_stayingTarget h0 :) (fun _ _ q => nomatch q.2) (fun r ph' q => ?_)
      obtain ⟨rfl, q⟩ := q
      cases q
      refine px_st (lv' := [.ref a0, .ref a1, .int a2, .ref p1, .int a4, va_rf t4, px_u, px_u, px_u]) rfl rfl (by first | rfl | (cases t4 <;> rfl)) (by first | rfl | (cases t4 <;> rfl)) rfl (by first | rfl | (cases t4 <;> rfl)) rfl ?_
      refine px_ld rfl rfl rfl (by first | rfl | (cases t4 <;> rfl)) rfl ?_
      cases t4 with
      | none =>
        refine px_ifnnN rfl rfl ?_
        refine px_goto rfl (by decide) rfl ?_
        refine px_forget (n := 5) (lv' := [_, _, _, _, _, _, _, _, _]) rfl ?_
        exact (r_Scribe_mergeSites_182 @ih h :)
      | some p6 =>
        refine px_ifnnR rfl (by decide) rfl ?_
        refine px_ld rfl rfl rfl rfl rfl ?_
        refine px_ld rfl rfl rfl rfl rfl ?_
        obtain ⟨fs, h0, h⟩ := xs_some h
        have e1 := xo_some h0
        obtain ⟨t7, ph8, h0, h⟩ := xb_some h
        refine px_cV1 rfl rfl e1 rfl rfl rfl rfl rfl rfl rfl (r_ObjectFile_sitesOf h0 :) (fun _ _ q => nomatch q.2) (fun r ph' q => ?_)
        obtain ⟨rfl, q⟩ := q
        cases q
        refine px_st (lv' := [_, _, _, _, _, _, _, _, _]) rfl rfl rfl rfl rfl rfl rfl ?_
        refine px_ld rfl rfl rfl rfl rfl ?_
        refine px_ld rfl rfl rfl rfl rfl ?_
        obtain ⟨fs, h0, h⟩ := xs_some h
        have e1 := xo_some h0
        obtain ⟨t9, ph10, h0, h⟩ := xb_some h
        refine px_cV1 rfl rfl e1 rfl rfl rfl rfl rfl rfl rfl (r_ObjectFile_placeOf h0 :) (fun _ _ q => nomatch q.2) (fun r ph' q => ?_)
        obtain ⟨rfl, q⟩ := q
        cases q
        refine px_alu rfl rfl rfl ?_
        refine px_st (lv' := [_, _, _, _, _, _, _, _, _]) rfl rfl rfl rfl rfl rfl rfl ?_
        refine px_ld rfl rfl rfl rfl rfl ?_
        refine px_ldc2 rfl rfl rfl ?_
        refine px_alu rfl rfl rfl ?_
        refine px_ld rfl rfl rfl rfl rfl ?_
        obtain ⟨t11, ph12, h0, h⟩ := xb_some h
        refine px_cS1 rfl rfl rfl rfl rfl rfl rfl (r_Scribe_nextPlace h0 :) (fun _ _ q => nomatch q.2) (fun r ph' q => ?_)
        obtain ⟨rfl, q⟩ := q
        cases q
        refine px_alu rfl rfl rfl ?_
        refine px_ic (k := 24) rfl rfl rfl ?_
        refine px_ld rfl rfl rfl rfl rfl ?_
        refine px_alu rfl rfl rfl ?_
        refine px_alu rfl rfl rfl ?_
        refine px_ld rfl rfl rfl rfl rfl ?_
        obtain ⟨t13, h0, h⟩ := xs_some h
        obtain ⟨fs, e1, e2⟩ := xgI_some h0
        refine px_get rfl e1 e2 rfl ?_
        refine px_ld rfl rfl rfl rfl rfl ?_
        obtain ⟨t14, h0, h⟩ := xs_some h
        obtain ⟨fs, e1, e2⟩ := xgI_some h0
        refine px_get rfl e1 e2 rfl ?_
        obtain ⟨fs, h0, h⟩ := xs_some h
        have e1 := xo_some h0
        obtain ⟨u0, ph15, h0, h⟩ := xb_some h
        refine px_cV6 rfl rfl e1 rfl rfl rfl rfl rfl rfl rfl (r_Scribe_putRow h0 :) (fun _ _ q => nomatch q.2) (fun r ph' q => ?_)
        obtain ⟨rfl, q⟩ := q
        cases q
        refine px_ld rfl rfl rfl rfl rfl ?_
        refine px_ldc2 rfl rfl rfl ?_
        refine px_ic (k := 24) rfl rfl rfl ?_
        obtain ⟨fs, h0, h⟩ := xs_some h
        have e1 := xo_some h0
        obtain ⟨u0, ph16, h0, h⟩ := xb_some h
        refine px_cV2 rfl rfl e1 rfl rfl rfl rfl rfl rfl rfl (r_Scribe_endRow h0 :) (fun _ _ q => nomatch q.2) (fun r ph' q => ?_)
        obtain ⟨rfl, q⟩ := q
        cases q
        refine px_ic (k := 0) rfl rfl rfl ?_
        refine px_st (lv' := [_, _, _, _, _, _, _, _, _]) rfl rfl rfl rfl rfl rfl rfl ?_
        refine px_forget (n := 5) (lv' := [_, _, _, _, _, _, _, _, _]) rfl ?_
        exact (r_Scribe_mergeSites_98 @ih _ h :)
def f_Scribe_mergeSites (F : Nat) (c : px_CT) (a0 : Nat) (a1 : Nat) (a2 : Int32) (ph : px_H) : Option (Unit × px_H) :=
  (xgR ph 11 0 a0).bind fun t1 =>
  (xo ph 3 t1).bind fun _ =>
  xb (f_Link_object F c t1 a2 ph) fun t2 ph3 =>
  f_Scribe_mergeSites_12 F c F a0 a1 a2 t2 (nI 0) ph3
theorem r_Scribe_mergeSites {l : Launch} {g : px_G} {d F : Nat} {a0 : Nat} {a1 : Nat} {a2 : Int32} {ph : px_H} {r : Unit} {ph' : px_H} (h : f_Scribe_mergeSites F (px_ct g) a0 a1 a2 ph = some (r, ph')) : PW l g (d + 5) m_Scribe_mergeSites 0 [.ref a0, .ref a1, .int a2, px_u, px_u, px_u, px_u, px_u, px_u] [] ph (px_qV r ph') := by
  unfold f_Scribe_mergeSites at h
  refine px_ld rfl rfl rfl rfl rfl ?_
  obtain ⟨t1, h0, h⟩ := xs_some h
  obtain ⟨fs, e1, e2⟩ := xgR_some h0
  refine px_get rfl e1 e2 rfl ?_
  refine px_ld rfl rfl rfl rfl rfl ?_
  obtain ⟨fs, h0, h⟩ := xs_some h
  have e1 := xo_some h0
  obtain ⟨t2, ph3, h0, h⟩ := xb_some h
  refine px_cV1 rfl rfl e1 rfl rfl rfl rfl rfl rfl rfl (r_Link_object h0 :) (fun _ _ q => nomatch q.2) (fun r ph' q => ?_)
  obtain ⟨rfl, q⟩ := q
  cases q
  refine px_st (lv' := [.ref a0, .ref a1, .int a2, va_rf t2, px_u, px_u, px_u, px_u, px_u]) rfl rfl (by first | rfl | (cases t2 <;> rfl)) (by first | rfl | (cases t2 <;> rfl)) rfl (by first | rfl | (cases t2 <;> rfl)) rfl ?_
  refine px_ic (k := 0) rfl rfl rfl ?_
  refine px_st (lv' := [.ref a0, .ref a1, .int a2, va_rf t2, .int (nI 0), px_u, px_u, px_u, px_u]) rfl rfl rfl rfl (by first | rfl | (cases t2 <;> rfl)) rfl rfl ?_
  exact (r_Scribe_mergeSites_12 _ h :)
def f_Scribe_putSymbol (F : Nat) (c : px_CT) (a0 : Nat) (a1 : Int32) (a2 : Int32) (a3 : Int32) (a4 : Int64) (a6 : Int64) (ph : px_H) : Option (Unit × px_H) :=
  (xo ph 10 a0).bind fun _ =>
  xb (f_Row_put F c a0 (nI 4) a1.toInt64 ph) fun _ ph1 =>
  (xo ph1 10 a0).bind fun _ =>
  xb (f_Row_put F c a0 (nI 1) a2.toInt64 ph1) fun _ ph2 =>
  (xo ph2 10 a0).bind fun _ =>
  xb (f_Row_put F c a0 (nI 1) (lN 0) ph2) fun _ ph3 =>
  (xo ph3 10 a0).bind fun _ =>
  xb (f_Row_put F c a0 (nI 2) a3.toInt64 ph3) fun _ ph4 =>
  (xo ph4 10 a0).bind fun _ =>
  xb (f_Row_put F c a0 (nI 8) a4 ph4) fun _ ph5 =>
  (xo ph5 10 a0).bind fun _ =>
  xb (f_Row_put F c a0 (nI 8) a6 ph5) fun _ ph6 =>
  some ((), ph6)
theorem r_Scribe_putSymbol {l : Launch} {g : px_G} {d F : Nat} {a0 : Nat} {a1 : Int32} {a2 : Int32} {a3 : Int32} {a4 : Int64} {a6 : Int64} {ph : px_H} {r : Unit} {ph' : px_H} (h : f_Scribe_putSymbol F (px_ct g) a0 a1 a2 a3 a4 a6 ph = some (r, ph')) : PW l g (d + 1) m_Scribe_putSymbol 0 [.ref a0, .int a1, .int a2, .int a3, .long a4, px_u, .long a6, px_u] [] ph (px_qV r ph') := by
  unfold f_Scribe_putSymbol at h
  refine px_ld rfl rfl rfl rfl rfl ?_
  refine px_ic (k := 4) rfl rfl rfl ?_
  refine px_ld rfl rfl rfl rfl rfl ?_
  refine px_alu rfl rfl rfl ?_
  obtain ⟨fs, h0, h⟩ := xs_some h
  have e1 := xo_some h0
  obtain ⟨u0, ph1, h0, h⟩ := xb_some h
  refine px_cV2 rfl rfl e1 rfl rfl rfl rfl rfl rfl rfl (r_Row_put h0 :) (fun _ _ q => nomatch q.2) (fun r ph' q => ?_)
  obtain ⟨rfl, q⟩ := q
  cases q
  refine px_ld rfl rfl rfl rfl rfl ?_
  refine px_ic (k := 1) rfl rfl rfl ?_
  refine px_ld rfl rfl rfl rfl rfl ?_
  refine px_alu rfl rfl rfl ?_
  obtain ⟨fs, h0, h⟩ := xs_some h
  have e1 := xo_some h0
  obtain ⟨u0, ph2, h0, h⟩ := xb_some h
  refine px_cV2 rfl rfl e1 rfl rfl rfl rfl rfl rfl rfl (r_Row_put h0 :) (fun _ _ q => nomatch q.2) (fun r ph' q => ?_)
  obtain ⟨rfl, q⟩ := q
  cases q
  refine px_ld rfl rfl rfl rfl rfl ?_
  refine px_ic (k := 1) rfl rfl rfl ?_
  refine px_alu rfl rfl rfl ?_
  obtain ⟨fs, h0, h⟩ := xs_some h
  have e1 := xo_some h0
  obtain ⟨u0, ph3, h0, h⟩ := xb_some h
  refine px_cV2 rfl rfl e1 rfl rfl rfl rfl rfl rfl rfl (r_Row_put h0 :) (fun _ _ q => nomatch q.2) (fun r ph' q => ?_)
  obtain ⟨rfl, q⟩ := q
  cases q
  refine px_ld rfl rfl rfl rfl rfl ?_
  refine px_ic (k := 2) rfl rfl rfl ?_
  refine px_ld rfl rfl rfl rfl rfl ?_
  refine px_alu rfl rfl rfl ?_
  obtain ⟨fs, h0, h⟩ := xs_some h
  have e1 := xo_some h0
  obtain ⟨u0, ph4, h0, h⟩ := xb_some h
  refine px_cV2 rfl rfl e1 rfl rfl rfl rfl rfl rfl rfl (r_Row_put h0 :) (fun _ _ q => nomatch q.2) (fun r ph' q => ?_)
  obtain ⟨rfl, q⟩ := q
  cases q
  refine px_ld rfl rfl rfl rfl rfl ?_
  refine px_ic (k := 8) rfl rfl rfl ?_
  refine px_ld rfl rfl rfl rfl rfl ?_
  obtain ⟨fs, h0, h⟩ := xs_some h
  have e1 := xo_some h0
  obtain ⟨u0, ph5, h0, h⟩ := xb_some h
  refine px_cV2 rfl rfl e1 rfl rfl rfl rfl rfl rfl rfl (r_Row_put h0 :) (fun _ _ q => nomatch q.2) (fun r ph' q => ?_)
  obtain ⟨rfl, q⟩ := q
  cases q
  refine px_ld rfl rfl rfl rfl rfl ?_
  refine px_ic (k := 8) rfl rfl rfl ?_
  refine px_ld rfl rfl rfl rfl rfl ?_
  obtain ⟨fs, h0, h⟩ := xs_some h
  have e1 := xo_some h0
  obtain ⟨u0, ph6, h0, h⟩ := xb_some h
  refine px_cV2 rfl rfl e1 rfl rfl rfl rfl rfl rfl rfl (r_Row_put h0 :) (fun _ _ q => nomatch q.2) (fun r ph' q => ?_)
  obtain ⟨rfl, q⟩ := q
  cases q
  cases h
  exact px_vret rfl rfl rfl ⟨rfl, rfl⟩
def f_Scribe_mergeLocal_100 (F : Nat) (c : px_CT) (a1 : Nat) (a4 : Option Nat) (a5 : Int32) (a6 : Int32) (a7 : Int64) (ph : px_H) : Option (Unit × px_H) :=
  (a4).bind fun p1 =>
  (xo ph 7 p1).bind fun _ =>
  xb (f_ObjectFile_num F c p1 (a5 + (nI 4)) (nI 1) ph) fun t2 ph3 =>
  (xo ph3 7 p1).bind fun _ =>
  xb (f_ObjectFile_num F c p1 (a5 + (nI 16)) (nI 8) ph3) fun t4 ph5 =>
  xb (f_Scribe_putSymbol F c a1 (nI 0) t2.toInt32 a6 a7 t4 ph5) fun _ ph6 =>
  some ((), ph6)
theorem r_Scribe_mergeLocal_100 {l : Launch} {g : px_G} {d F : Nat} {a1 : Nat} {a4 : Option Nat} {a5 : Int32} {a6 : Int32} {a7 : Int64} {ph : px_H} {r : Unit} {ph' : px_H} (h : f_Scribe_mergeLocal_100 F (px_ct g) a1 a4 a5 a6 a7 ph = some (r, ph')) : PW l g (d + 2) m_Scribe_mergeLocal 100 [px_u, .ref a1, px_u, px_u, va_rf a4, .int a5, .int a6, .long a7, px_u, px_u] [] ph (px_qV r ph') := by
  unfold f_Scribe_mergeLocal_100 at h
  refine px_ld rfl rfl rfl rfl rfl ?_
  refine px_ic (k := 0) rfl rfl rfl ?_
  refine px_ld rfl rfl rfl (by first | rfl | (cases a4 <;> rfl)) rfl ?_
  refine px_ld rfl rfl rfl rfl rfl ?_
  refine px_ic (k := 4) rfl rfl rfl ?_
  refine px_alu rfl rfl rfl ?_
  refine px_ic (k := 1) rfl rfl rfl ?_
  obtain ⟨p1, h0, h⟩ := xs_some h
  revert h
  subst h0
  intro h
  obtain ⟨fs, h0, h⟩ := xs_some h
  have e1 := xo_some h0
  obtain ⟨t2, ph3, h0, h⟩ := xb_some h
  refine px_cV2 rfl rfl e1 rfl rfl rfl rfl rfl rfl rfl (r_ObjectFile_num h0 :) (fun _ _ q => nomatch q.2) (fun r ph' q => ?_)
  obtain ⟨rfl, q⟩ := q
  cases q
  refine px_alu rfl rfl rfl ?_
  refine px_ld rfl rfl rfl rfl rfl ?_
  refine px_ld rfl rfl rfl rfl rfl ?_
  refine px_ld rfl rfl rfl rfl rfl ?_
  refine px_ld rfl rfl rfl rfl rfl ?_
  refine px_ic (k := 16) rfl rfl rfl ?_
  refine px_alu rfl rfl rfl ?_
  refine px_ic (k := 8) rfl rfl rfl ?_
  obtain ⟨fs, h0, h⟩ := xs_some h
  have e1 := xo_some h0
  obtain ⟨t4, ph5, h0, h⟩ := xb_some h
  refine px_cV2 rfl rfl e1 rfl rfl rfl rfl rfl rfl rfl (r_ObjectFile_num h0 :) (fun _ _ q => nomatch q.2) (fun r ph' q => ?_)
  obtain ⟨rfl, q⟩ := q
  cases q
  obtain ⟨u0, ph6, h0, h⟩ := xb_some h
  refine px_cS6 rfl rfl rfl rfl rfl rfl rfl (r_Scribe_putSymbol h0 :) (fun _ _ q => nomatch q.2) (fun r ph' q => ?_)
  obtain ⟨rfl, q⟩ := q
  cases q
  cases h
  exact px_vret rfl rfl rfl ⟨rfl, rfl⟩
def f_Scribe_mergeLocal_98 (F : Nat) (c : px_CT) (a1 : Nat) (a4 : Option Nat) (a5 : Int32) (a6 : Int32) (s0 : Int64) (ph : px_H) : Option (Unit × px_H) :=
  f_Scribe_mergeLocal_100 F c a1 a4 a5 a6 s0 ph
theorem r_Scribe_mergeLocal_98 {l : Launch} {g : px_G} {d F : Nat} {a1 : Nat} {a4 : Option Nat} {a5 : Int32} {a6 : Int32} {s0 : Int64} {ph : px_H} {r : Unit} {ph' : px_H} (h : f_Scribe_mergeLocal_98 F (px_ct g) a1 a4 a5 a6 s0 ph = some (r, ph')) : PW l g (d + 2) m_Scribe_mergeLocal 98 [px_u, .ref a1, px_u, px_u, va_rf a4, .int a5, .int a6, px_u, px_u, px_u] [.long s0] ph (px_qV r ph') := by
  unfold f_Scribe_mergeLocal_98 at h
  refine px_st (lv' := [_, _, _, _, _, _, _, _, _, _]) rfl rfl rfl rfl rfl rfl rfl ?_
  exact (r_Scribe_mergeLocal_100 h :)
def f_Scribe_mergeLocal_81 (F : Nat) (c : px_CT) (a1 : Nat) (a4 : Option Nat) (a5 : Int32) (a7 : Int64) (a9 : Option Nat) (s0 : Int32) (ph : px_H) : Option (Unit × px_H) :=
  (a9).bind fun p1 =>
  (xgI ph 8 8 p1).bind fun t2 =>
  if t2 = (nI 2) then
    f_Scribe_mergeLocal_98 F c a1 a4 a5 s0 (lN 0) ph
  else
    f_Scribe_mergeLocal_98 F c a1 a4 a5 s0 a7 ph
theorem r_Scribe_mergeLocal_81 {l : Launch} {g : px_G} {d F : Nat} {a1 : Nat} {a4 : Option Nat} {a5 : Int32} {a7 : Int64} {a9 : Option Nat} {s0 : Int32} {ph : px_H} {r : Unit} {ph' : px_H} (h : f_Scribe_mergeLocal_81 F (px_ct g) a1 a4 a5 a7 a9 s0 ph = some (r, ph')) : PW l g (d + 2) m_Scribe_mergeLocal 81 [px_u, .ref a1, px_u, px_u, va_rf a4, .int a5, px_u, .long a7, px_u, va_rf a9] [.int s0] ph (px_qV r ph') := by
  unfold f_Scribe_mergeLocal_81 at h
  refine px_st (lv' := [_, _, _, _, _, _, _, _, _, _]) rfl rfl rfl rfl rfl rfl rfl ?_
  refine px_ld rfl rfl rfl (by first | rfl | (cases a9 <;> rfl)) rfl ?_
  obtain ⟨p1, h0, h⟩ := xs_some h
  revert h
  subst h0
  intro h
  obtain ⟨t2, h0, h⟩ := xs_some h
  obtain ⟨fs, e1, e2⟩ := xgI_some h0
  refine px_get rfl e1 e2 rfl ?_
  refine px_ic (k := 2) rfl rfl rfl ?_
  refine px_icne rfl (by decide) rfl (fun hc => ?_) (fun hc => ?_)
  · replace h := (if_neg hc).symm.trans h
    refine px_ld rfl rfl rfl rfl rfl ?_
    refine px_forget (n := 7) (lv' := [_, _, _, _, _, _, _, _, _, _]) rfl ?_
    refine px_forget (n := 9) (lv' := [_, _, _, _, _, _, _, _, _, _]) rfl ?_
    exact (r_Scribe_mergeLocal_98 h :)
  · replace h := (if_pos hc).symm.trans h
    refine px_alu rfl rfl rfl ?_
    refine px_goto rfl (by decide) rfl ?_
    refine px_forget (n := 7) (lv' := [_, _, _, _, _, _, _, _, _, _]) rfl ?_
    refine px_forget (n := 9) (lv' := [_, _, _, _, _, _, _, _, _, _]) rfl ?_
    exact (r_Scribe_mergeLocal_98 h :)
def f_Scribe_mergeLocal (F : Nat) (c : px_CT) (a0 : Nat) (a1 : Nat) (a2 : Int32) (a3 : Int32) (ph : px_H) : Option (Unit × px_H) :=
  (xgR ph 11 0 a0).bind fun t1 =>
  (xo ph 3 t1).bind fun _ =>
  xb (f_Link_object F c t1 a2 ph) fun t2 ph3 =>
  (t2).bind fun p4 =>
  (xgI ph3 7 10 p4).bind fun t5 =>
  (xo ph3 7 p4).bind fun _ =>
  xb (f_ObjectFile_whereOf F c p4 a3 ph3) fun t6 ph7 =>
  (xo ph7 7 p4).bind fun _ =>
  xb (f_ObjectFile_valueOf F c p4 a3 ph7) fun t8 ph9 =>
  if t6 ≤ 0 then
    f_Scribe_mergeLocal_100 F c a1 (some p4) (t5 + ((nI 24) * a3)) t6 t8 ph9
  else
    if (nI 24) ≤ t6 then
      f_Scribe_mergeLocal_100 F c a1 (some p4) (t5 + ((nI 24) * a3)) t6 t8 ph9
    else
      (xgR ph9 11 0 a0).bind fun t10 =>
      (xo ph9 3 t10).bind fun _ =>
      xb (f_Link_part F c t10 a2 t6 ph9) fun t11 ph12 =>
      (t11).bind fun p13 =>
      (xgI ph12 8 9 p13).bind fun t14 =>
      if t14 = 0 then
        f_Scribe_mergeLocal_81 F c a1 (some p4) (t5 + ((nI 24) * a3)) t8 (some p13) ((65521 : Int32)) ph12
      else
        (xgI ph12 8 12 p13).bind fun t15 =>
        f_Scribe_mergeLocal_81 F c a1 (some p4) (t5 + ((nI 24) * a3)) t8 (some p13) t15 ph12
theorem r_Scribe_mergeLocal {l : Launch} {g : px_G} {d F : Nat} {a0 : Nat} {a1 : Nat} {a2 : Int32} {a3 : Int32} {ph : px_H} {r : Unit} {ph' : px_H} (h : f_Scribe_mergeLocal F (px_ct g) a0 a1 a2 a3 ph = some (r, ph')) : PW l g (d + 2) m_Scribe_mergeLocal 0 [.ref a0, .ref a1, .int a2, .int a3, px_u, px_u, px_u, px_u, px_u, px_u] [] ph (px_qV r ph') := by
  unfold f_Scribe_mergeLocal at h
  refine px_ld rfl rfl rfl rfl rfl ?_
  obtain ⟨t1, h0, h⟩ := xs_some h
  obtain ⟨fs, e1, e2⟩ := xgR_some h0
  refine px_get rfl e1 e2 rfl ?_
  refine px_ld rfl rfl rfl rfl rfl ?_
  obtain ⟨fs, h0, h⟩ := xs_some h
  have e1 := xo_some h0
  obtain ⟨t2, ph3, h0, h⟩ := xb_some h
  refine px_cV1 rfl rfl e1 rfl rfl rfl rfl rfl rfl rfl (r_Link_object h0 :) (fun _ _ q => nomatch q.2) (fun r ph' q => ?_)
  obtain ⟨rfl, q⟩ := q
  cases q
  refine px_st (lv' := [.ref a0, .ref a1, .int a2, .int a3, va_rf t2, px_u, px_u, px_u, px_u, px_u]) rfl rfl (by first | rfl | (cases t2 <;> rfl)) (by first | rfl | (cases t2 <;> rfl)) rfl (by first | rfl | (cases t2 <;> rfl)) rfl ?_
  refine px_ld rfl rfl rfl (by first | rfl | (cases t2 <;> rfl)) rfl ?_
  obtain ⟨p4, h0, h⟩ := xs_some h
  revert h
  subst h0
  intro h
  obtain ⟨t5, h0, h⟩ := xs_some h
  obtain ⟨fs, e1, e2⟩ := xgI_some h0
  refine px_get rfl e1 e2 rfl ?_
  refine px_ic (k := 24) rfl rfl rfl ?_
  refine px_ld rfl rfl rfl rfl rfl ?_
  refine px_alu rfl rfl rfl ?_
  refine px_alu rfl rfl rfl ?_
  refine px_st (lv' := [_, _, _, _, _, _, _, _, _, _]) rfl rfl rfl rfl rfl rfl rfl ?_
  refine px_ld rfl rfl rfl rfl rfl ?_
  refine px_ld rfl rfl rfl rfl rfl ?_
  obtain ⟨fs, h0, h⟩ := xs_some h
  have e1 := xo_some h0
  obtain ⟨t6, ph7, h0, h⟩ := xb_some h
  refine px_cV1 rfl rfl e1 rfl rfl rfl rfl rfl rfl rfl (r_ObjectFile_whereOf h0 :) (fun _ _ q => nomatch q.2) (fun r ph' q => ?_)
  obtain ⟨rfl, q⟩ := q
  cases q
  refine px_st (lv' := [_, _, _, _, _, _, _, _, _, _]) rfl rfl rfl rfl rfl rfl rfl ?_
  refine px_ld rfl rfl rfl rfl rfl ?_
  refine px_ld rfl rfl rfl rfl rfl ?_
  obtain ⟨fs, h0, h⟩ := xs_some h
  have e1 := xo_some h0
  obtain ⟨t8, ph9, h0, h⟩ := xb_some h
  refine px_cV1 rfl rfl e1 rfl rfl rfl rfl rfl rfl rfl (r_ObjectFile_valueOf h0 :) (fun _ _ q => nomatch q.2) (fun r ph' q => ?_)
  obtain ⟨rfl, q⟩ := q
  cases q
  refine px_st (lv' := [_, _, _, _, _, _, _, _, _, _]) rfl rfl rfl rfl rfl rfl rfl ?_
  refine px_ld rfl rfl rfl rfl rfl ?_
  refine px_ifle rfl (by decide) rfl (fun hc => ?_) (fun hc => ?_)
  · replace h := (if_pos hc).symm.trans h
    refine px_forget (n := 0) (lv' := [_, _, _, _, _, _, _, _, _, _]) rfl ?_
    refine px_forget (n := 2) (lv' := [_, _, _, _, _, _, _, _, _, _]) rfl ?_
    refine px_forget (n := 3) (lv' := [_, _, _, _, _, _, _, _, _, _]) rfl ?_
    exact (r_Scribe_mergeLocal_100 h :)
  · replace h := (if_neg hc).symm.trans h
    refine px_ld rfl rfl rfl rfl rfl ?_
    refine px_ic (k := 24) rfl rfl rfl ?_
    refine px_icge rfl (by decide) rfl (fun hc => ?_) (fun hc => ?_)
    · replace h := (if_pos hc).symm.trans h
      refine px_forget (n := 0) (lv' := [_, _, _, _, _, _, _, _, _, _]) rfl ?_
      refine px_forget (n := 2) (lv' := [_, _, _, _, _, _, _, _, _, _]) rfl ?_
      refine px_forget (n := 3) (lv' := [_, _, _, _, _, _, _, _, _, _]) rfl ?_
      exact (r_Scribe_mergeLocal_100 h :)
    · replace h := (if_neg hc).symm.trans h
      refine px_ld rfl rfl rfl rfl rfl ?_
      obtain ⟨t10, h0, h⟩ := xs_some h
      obtain ⟨fs, e1, e2⟩ := xgR_some h0
      refine px_get rfl e1 e2 rfl ?_
      refine px_ld rfl rfl rfl rfl rfl ?_
      refine px_ld rfl rfl rfl rfl rfl ?_
      obtain ⟨fs, h0, h⟩ := xs_some h
      have e1 := xo_some h0
      obtain ⟨t11, ph12, h0, h⟩ := xb_some h
      refine px_cV2 rfl rfl e1 rfl rfl rfl rfl rfl rfl rfl (r_Link_part h0 :) (fun _ _ q => nomatch q.2) (fun r ph' q => ?_)
      obtain ⟨rfl, q⟩ := q
      cases q
      refine px_st (lv' := [.ref a0, .ref a1, .int a2, .int a3, .ref p4, .int (t5 + ((nI 24) * a3)), .int t6, .long t8, px_u, va_rf t11]) rfl rfl (by first | rfl | (cases t11 <;> rfl)) (by first | rfl | (cases t11 <;> rfl)) rfl (by first | rfl | (cases t11 <;> rfl)) rfl ?_
      refine px_ld rfl rfl rfl (by first | rfl | (cases t11 <;> rfl)) rfl ?_
      obtain ⟨p13, h0, h⟩ := xs_some h
      revert h
      subst h0
      intro h
      obtain ⟨t14, h0, h⟩ := xs_some h
      obtain ⟨fs, e1, e2⟩ := xgI_some h0
      refine px_get rfl e1 e2 rfl ?_
      refine px_ifeq rfl (by decide) rfl (fun hc => ?_) (fun hc => ?_)
      · replace h := (if_pos hc).symm.trans h
        refine px_ldcw rfl (by decide) rfl rfl ?_
        refine px_forget (n := 0) (lv' := [_, _, _, _, _, _, _, _, _, _]) rfl ?_
        refine px_forget (n := 2) (lv' := [_, _, _, _, _, _, _, _, _, _]) rfl ?_
        refine px_forget (n := 3) (lv' := [_, _, _, _, _, _, _, _, _, _]) rfl ?_
        refine px_forget (n := 6) (lv' := [_, _, _, _, _, _, _, _, _, _]) rfl ?_
        exact (r_Scribe_mergeLocal_81 h :)
      · replace h := (if_neg hc).symm.trans h
        refine px_ld rfl rfl rfl rfl rfl ?_
        obtain ⟨t15, h0, h⟩ := xs_some h
        obtain ⟨fs, e1, e2⟩ := xgI_some h0
        refine px_get rfl e1 e2 rfl ?_
        refine px_goto rfl (by decide) rfl ?_
        refine px_forget (n := 0) (lv' := [_, _, _, _, _, _, _, _, _, _]) rfl ?_
        refine px_forget (n := 2) (lv' := [_, _, _, _, _, _, _, _, _, _]) rfl ?_
        refine px_forget (n := 3) (lv' := [_, _, _, _, _, _, _, _, _, _]) rfl ?_
        refine px_forget (n := 6) (lv' := [_, _, _, _, _, _, _, _, _, _]) rfl ?_
        exact (r_Scribe_mergeLocal_81 h :)
def f_Name_isDefinedByInput_29 (F : Nat) (c : px_CT) (s0 : Int32) (ph : px_H) : Option (Int32 × px_H) :=
  xz s0 ph
theorem r_Name_isDefinedByInput_29 {l : Launch} {g : px_G} {d F : Nat} {s0 : Int32} {ph : px_H} {r : Int32} {ph' : px_H} (h : f_Name_isDefinedByInput_29 F (px_ct g) s0 ph = some (r, ph')) : PW l g (d + 0) m_Name_isDefinedByInput 29 [px_u] [.int s0] ph (px_qI r ph') := by
  unfold f_Name_isDefinedByInput_29 at h
  obtain ⟨e0, e1, e2⟩ := xz_some h
  subst e1 e2
  exact px_iret rfl (Or.inr ⟨rfl, e0⟩) rfl ⟨rfl, rfl⟩
def f_Name_isDefinedByInput_24 (F : Nat) (c : px_CT) (ph : px_H) : Option (Int32 × px_H) :=
  f_Name_isDefinedByInput_29 F c (nI 1) ph
theorem r_Name_isDefinedByInput_24 {l : Launch} {g : px_G} {d F : Nat} {ph : px_H} {r : Int32} {ph' : px_H} (h : f_Name_isDefinedByInput_24 F (px_ct g) ph = some (r, ph')) : PW l g (d + 0) m_Name_isDefinedByInput 24 [px_u] [] ph (px_qI r ph') := by
  unfold f_Name_isDefinedByInput_24 at h
  refine px_ic (k := 1) rfl rfl rfl ?_
  refine px_goto rfl rfl rfl ?_
  exact (r_Name_isDefinedByInput_29 h :)
def f_Name_isDefinedByInput (F : Nat) (c : px_CT) (a0 : Nat) (ph : px_H) : Option (Int32 × px_H) :=
  (xgI ph 5 5 a0).bind fun t1 =>
  if t1 = (nI 1) then
    f_Name_isDefinedByInput_24 F c ph
  else
    (xgI ph 5 5 a0).bind fun t2 =>
    if t2 = (nI 2) then
      f_Name_isDefinedByInput_24 F c ph
    else
      (xgI ph 5 5 a0).bind fun t3 =>
      if t3 = (nI 3) then
        f_Name_isDefinedByInput_24 F c ph
      else
        f_Name_isDefinedByInput_29 F c (nI 0) ph
theorem r_Name_isDefinedByInput {l : Launch} {g : px_G} {d F : Nat} {a0 : Nat} {ph : px_H} {r : Int32} {ph' : px_H} (h : f_Name_isDefinedByInput F (px_ct g) a0 ph = some (r, ph')) : PW l g (d + 0) m_Name_isDefinedByInput 0 [.ref a0] [] ph (px_qI r ph') := by
  unfold f_Name_isDefinedByInput at h
  refine px_ld rfl rfl rfl rfl rfl ?_
  obtain ⟨t1, h0, h⟩ := xs_some h
  obtain ⟨fs, e1, e2⟩ := xgI_some h0
  refine px_get rfl e1 e2 rfl ?_
  refine px_ic (k := 1) rfl rfl rfl ?_
  refine px_iceq rfl rfl rfl (fun hc => ?_) (fun hc => ?_)
  · replace h := (if_pos hc).symm.trans h
    refine px_forget (n := 0) (lv' := [_]) rfl ?_
    exact (r_Name_isDefinedByInput_24 h :)
  · replace h := (if_neg hc).symm.trans h
    refine px_ld rfl rfl rfl rfl rfl ?_
    obtain ⟨t2, h0, h⟩ := xs_some h
    obtain ⟨fs, e1, e2⟩ := xgI_some h0
    refine px_get rfl e1 e2 rfl ?_
    refine px_ic (k := 2) rfl rfl rfl ?_
    refine px_iceq rfl rfl rfl (fun hc => ?_) (fun hc => ?_)
    · replace h := (if_pos hc).symm.trans h
      refine px_forget (n := 0) (lv' := [_]) rfl ?_
      exact (r_Name_isDefinedByInput_24 h :)
    · replace h := (if_neg hc).symm.trans h
      refine px_ld rfl rfl rfl rfl rfl ?_
      obtain ⟨t3, h0, h⟩ := xs_some h
      obtain ⟨fs, e1, e2⟩ := xgI_some h0
      refine px_get rfl e1 e2 rfl ?_
      refine px_ic (k := 3) rfl rfl rfl ?_
      refine px_icne rfl rfl rfl (fun hc => ?_) (fun hc => ?_)
      · replace h := (if_neg hc).symm.trans h
        refine px_ic (k := 0) rfl rfl rfl ?_
        refine px_forget (n := 0) (lv' := [_]) rfl ?_
        exact (r_Name_isDefinedByInput_29 h :)
      · replace h := (if_pos hc).symm.trans h
        refine px_forget (n := 0) (lv' := [_]) rfl ?_
        exact (r_Name_isDefinedByInput_24 h :)
def f_Scribe_mergeName_72 (F : Nat) (c : px_CT) (a1 : Nat) (a2 : Option Nat) (a3 : Int32) (a4 : Int32) (ph : px_H) : Option (Unit × px_H) :=
  (a2).bind fun p1 =>
  (xgI ph 5 9 p1).bind fun t2 =>
  (xgJ ph 5 7 p1).bind fun t3 =>
  (xgJ ph 5 8 p1).bind fun t4 =>
  xb (f_Scribe_putSymbol F c a1 a3 t2 a4 t3 t4 ph) fun _ ph5 =>
  some ((), ph5)
theorem r_Scribe_mergeName_72 {l : Launch} {g : px_G} {d F : Nat} {a1 : Nat} {a2 : Option Nat} {a3 : Int32} {a4 : Int32} {ph : px_H} {r : Unit} {ph' : px_H} (h : f_Scribe_mergeName_72 F (px_ct g) a1 a2 a3 a4 ph = some (r, ph')) : PW l g (d + 2) m_Scribe_mergeName 72 [px_u, .ref a1, va_rf a2, .int a3, .int a4] [] ph (px_qV r ph') := by
  unfold f_Scribe_mergeName_72 at h
  refine px_ld rfl rfl rfl rfl rfl ?_
  refine px_ld rfl rfl rfl rfl rfl ?_
  refine px_ld rfl rfl rfl (by first | rfl | (cases a2 <;> rfl)) rfl ?_
  obtain ⟨p1, h0, h⟩ := xs_some h
  revert h
  subst h0
  intro h
  obtain ⟨t2, h0, h⟩ := xs_some h
  obtain ⟨fs, e1, e2⟩ := xgI_some h0
  refine px_get rfl e1 e2 rfl ?_
  refine px_ld rfl rfl rfl rfl rfl ?_
  refine px_ld rfl rfl rfl rfl rfl ?_
  obtain ⟨t3, h0, h⟩ := xs_some h
  obtain ⟨fs, e1, e2⟩ := xgJ_some h0
  refine px_get rfl e1 e2 rfl ?_
  refine px_ld rfl rfl rfl rfl rfl ?_
  obtain ⟨t4, h0, h⟩ := xs_some h
  obtain ⟨fs, e1, e2⟩ := xgJ_some h0
  refine px_get rfl e1 e2 rfl ?_
  obtain ⟨u0, ph5, h0, h⟩ := xb_some h
  refine px_cS6 rfl rfl rfl rfl rfl rfl rfl (r_Scribe_putSymbol h0 :) (fun _ _ q => nomatch q.2) (fun r ph' q => ?_)
  obtain ⟨rfl, q⟩ := q
  cases q
  cases h
  exact px_vret rfl rfl rfl ⟨rfl, rfl⟩
def f_Scribe_mergeName_46 (F : Nat) (c : px_CT) (a1 : Nat) (a2 : Option Nat) (a3 : Int32) (s0 : Int32) (ph : px_H) : Option (Unit × px_H) :=
  (a2).bind fun p1 =>
  (xgI ph 5 5 p1).bind fun t2 =>
  if t2 = (nI 1) then
    (xgN ph 5 6 p1).bind fun t3 =>
    (match t3 with
      | none => f_Scribe_mergeName_72 F c a1 (some p1) a3 s0 ph
      | some p4 => (xgN ph 5 6 p1).bind fun t5 =>
      (t5).bind fun p6 =>
      (xgI ph 8 12 p6).bind fun t7 =>
      f_Scribe_mergeName_72 F c a1 (some p1) a3 t7 ph)
  else
    f_Scribe_mergeName_72 F c a1 (some p1) a3 s0 ph
theorem r_Scribe_mergeName_46 {l : Launch} {g : px_G} {d F : Nat} {a1 : Nat} {a2 : Option Nat} {a3 : Int32} {s0 : Int32} {ph : px_H} {r : Unit} {ph' : px_H} (h : f_Scribe_mergeName_46 F (px_ct g) a1 a2 a3 s0 ph = some (r, ph')) : PW l g (d + 2) m_Scribe_mergeName 46 [px_u, .ref a1, va_rf a2, .int a3, px_u] [.int s0] ph (px_qV r ph') := by
  unfold f_Scribe_mergeName_46 at h
  refine px_st (lv' := [_, _, _, _, _]) rfl rfl rfl rfl rfl rfl rfl ?_
  refine px_ld rfl rfl rfl (by first | rfl | (cases a2 <;> rfl)) rfl ?_
  obtain ⟨p1, h0, h⟩ := xs_some h
  revert h
  subst h0
  intro h
  obtain ⟨t2, h0, h⟩ := xs_some h
  obtain ⟨fs, e1, e2⟩ := xgI_some h0
  refine px_get rfl e1 e2 rfl ?_
  refine px_ic (k := 1) rfl rfl rfl ?_
  refine px_icne rfl rfl rfl (fun hc => ?_) (fun hc => ?_)
  · replace h := (if_neg hc).symm.trans h
    exact (r_Scribe_mergeName_72 h :)
  · replace h := (if_pos hc).symm.trans h
    refine px_ld rfl rfl rfl rfl rfl ?_
    obtain ⟨t3, h0, h⟩ := xs_some h
    obtain ⟨fs, e1, e2⟩ := xgN_some h0
    refine px_get rfl e1 e2 rfl ?_
    cases t3 with
    | none =>
      refine px_ifnullN rfl rfl rfl ?_
      exact (r_Scribe_mergeName_72 h :)
    | some p4 =>
      refine px_ifnullR rfl rfl ?_
      refine px_ld rfl rfl rfl rfl rfl ?_
      obtain ⟨t5, h0, h⟩ := xs_some h
      obtain ⟨fs, e1, e2⟩ := xgN_some h0
      refine px_get rfl e1 e2 rfl ?_
      obtain ⟨p6, h0, h⟩ := xs_some h
      revert h
      subst h0
      intro h
      obtain ⟨t7, h0, h⟩ := xs_some h
      obtain ⟨fs, e1, e2⟩ := xgI_some h0
      refine px_get rfl e1 e2 rfl ?_
      refine px_st (lv' := [_, _, _, _, _]) rfl rfl rfl rfl rfl rfl rfl ?_
      exact (r_Scribe_mergeName_72 h :)
def f_Scribe_mergeName_23 (F : Nat) (c : px_CT) (s0 : Nat) (s1 : Int32) (s2 : Int32) (ph : px_H) : Option (Unit × px_H) :=
  xb (f_Scribe_putSymbol F c s0 s1 s2 (nI 0) (lN 0) (lN 0) ph) fun _ ph1 =>
  some ((), ph1)
theorem r_Scribe_mergeName_23 {l : Launch} {g : px_G} {d F : Nat} {s0 : Nat} {s1 : Int32} {s2 : Int32} {ph : px_H} {r : Unit} {ph' : px_H} (h : f_Scribe_mergeName_23 F (px_ct g) s0 s1 s2 ph = some (r, ph')) : PW l g (d + 2) m_Scribe_mergeName 23 [px_u, px_u, px_u, px_u, px_u] [.int s2, .int s1, .ref s0] ph (px_qV r ph') := by
  unfold f_Scribe_mergeName_23 at h
  refine px_ic (k := 0) rfl rfl rfl ?_
  refine px_alu rfl rfl rfl ?_
  refine px_alu rfl rfl rfl ?_
  obtain ⟨u0, ph1, h0, h⟩ := xb_some h
  refine px_cS6 rfl rfl rfl rfl rfl rfl rfl (r_Scribe_putSymbol h0 :) (fun _ _ q => nomatch q.2) (fun r ph' q => ?_)
  obtain ⟨rfl, q⟩ := q
  cases q
  cases h
  exact px_vret rfl rfl rfl ⟨rfl, rfl⟩
def f_Scribe_mergeName (F : Nat) (c : px_CT) (a0 : Nat) (a1 : Nat) (a2 : Option Nat) (a3 : Int32) (ph : px_H) : Option (Unit × px_H) :=
  (a2).bind fun p1 =>
  (xo ph 5 p1).bind fun _ =>
  xb (f_Name_isDefinedByInput F c p1 ph) fun t2 ph3 =>
  if t2 = 0 then
    (xo ph3 5 p1).bind fun _ =>
    xb (f_Name_isMissedOrWished F c p1 ph3) fun t5 ph6 =>
    if t5 = 0 then
      f_Scribe_mergeName_23 F c a1 a3 (nI 32) ph6
    else
      f_Scribe_mergeName_23 F c a1 a3 (nI 16) ph6
  else
    (xgI ph3 5 5 p1).bind fun t4 =>
    if t4 = (nI 3) then
      f_Scribe_mergeName_46 F c a1 (some p1) a3 ((65522 : Int32)) ph3
    else
      f_Scribe_mergeName_46 F c a1 (some p1) a3 ((65521 : Int32)) ph3
theorem r_Scribe_mergeName {l : Launch} {g : px_G} {d F : Nat} {a0 : Nat} {a1 : Nat} {a2 : Option Nat} {a3 : Int32} {ph : px_H} {r : Unit} {ph' : px_H} (h : f_Scribe_mergeName F (px_ct g) a0 a1 a2 a3 ph = some (r, ph')) : PW l g (d + 2) m_Scribe_mergeName 0 [.ref a0, .ref a1, va_rf a2, .int a3, px_u] [] ph (px_qV r ph') := by
  unfold f_Scribe_mergeName at h
  refine px_ld rfl rfl rfl (by first | rfl | (cases a2 <;> rfl)) rfl ?_
  obtain ⟨p1, h0, h⟩ := xs_some h
  revert h
  subst h0
  intro h
  obtain ⟨fs, h0, h⟩ := xs_some h
  have e1 := xo_some h0
  obtain ⟨t2, ph3, h0, h⟩ := xb_some h
  refine px_cV0 rfl rfl e1 rfl rfl rfl rfl rfl rfl rfl (r_Name_isDefinedByInput h0 :) (fun _ _ q => nomatch q.2) (fun r ph' q => ?_)
  obtain ⟨rfl, q⟩ := q
  cases q
  refine px_ifne rfl rfl rfl (fun hc => ?_) (fun hc => ?_)
  · replace h := (if_neg hc).symm.trans h
    refine px_ld rfl rfl rfl rfl rfl ?_
    obtain ⟨t4, h0, h⟩ := xs_some h
    obtain ⟨fs, e1, e2⟩ := xgI_some h0
    refine px_get rfl e1 e2 rfl ?_
    refine px_ic (k := 3) rfl rfl rfl ?_
    refine px_icne rfl rfl rfl (fun hc => ?_) (fun hc => ?_)
    · replace h := (if_neg hc).symm.trans h
      refine px_ldcw rfl (by decide) rfl rfl ?_
      refine px_forget (n := 0) (lv' := [_, _, _, _, _]) rfl ?_
      exact (r_Scribe_mergeName_46 h :)
    · replace h := (if_pos hc).symm.trans h
      refine px_ldc rfl (by decide) rfl rfl ?_
      refine px_goto rfl rfl rfl ?_
      refine px_forget (n := 0) (lv' := [_, _, _, _, _]) rfl ?_
      exact (r_Scribe_mergeName_46 h :)
  · replace h := (if_pos hc).symm.trans h
    refine px_ld rfl rfl rfl rfl rfl ?_
    refine px_ld rfl rfl rfl rfl rfl ?_
    refine px_ld rfl rfl rfl rfl rfl ?_
    obtain ⟨fs, h0, h⟩ := xs_some h
    have e1 := xo_some h0
    obtain ⟨t5, ph6, h0, h⟩ := xb_some h
    refine px_cV0 rfl rfl e1 rfl rfl rfl rfl rfl rfl rfl (r_Name_isMissedOrWished h0 :) (fun _ _ q => nomatch q.2) (fun r ph' q => ?_)
    obtain ⟨rfl, q⟩ := q
    cases q
    refine px_ifeq rfl rfl rfl (fun hc => ?_) (fun hc => ?_)
    · replace h := (if_pos hc).symm.trans h
      refine px_ic (k := 32) rfl rfl rfl ?_
      refine px_forget (n := 0) (lv' := [_, _, _, _, _]) rfl ?_
      refine px_forget (n := 1) (lv' := [_, _, _, _, _]) rfl ?_
      refine px_forget (n := 2) (lv' := [_, _, _, _, _]) rfl ?_
      refine px_forget (n := 3) (lv' := [_, _, _, _, _]) rfl ?_
      exact (r_Scribe_mergeName_23 h :)
    · replace h := (if_neg hc).symm.trans h
      refine px_ic (k := 16) rfl rfl rfl ?_
      refine px_goto rfl rfl rfl ?_
      refine px_forget (n := 0) (lv' := [_, _, _, _, _]) rfl ?_
      refine px_forget (n := 1) (lv' := [_, _, _, _, _]) rfl ?_
      refine px_forget (n := 2) (lv' := [_, _, _, _, _]) rfl ?_
      refine px_forget (n := 3) (lv' := [_, _, _, _, _]) rfl ?_
      exact (r_Scribe_mergeName_23 h :)
def f_Scribe_mergeSymbols_191 (F : Nat) (c : px_CT) (ph : px_H) : Option (Unit × px_H) :=
  some ((), ph)
theorem r_Scribe_mergeSymbols_191 {l : Launch} {g : px_G} {d F : Nat} {ph : px_H} {r : Unit} {ph' : px_H} (h : f_Scribe_mergeSymbols_191 F (px_ct g) ph = some (r, ph')) : PW l g (d + 5) m_Scribe_mergeSymbols 191 [px_u, px_u, px_u, px_u, px_u, px_u] [] ph (px_qV r ph') := by
  unfold f_Scribe_mergeSymbols_191 at h
  cases h
  exact px_vret rfl rfl rfl ⟨rfl, rfl⟩
def f_Scribe_mergeSymbols_185 (F : Nat) (c : px_CT) (k134 : Nat → Nat → Int32 → Int32 → px_H → Option (Unit × px_H)) (a0 : Nat) (a1 : Nat) (a3 : Int32) (a4 : Int32) (ph : px_H) : Option (Unit × px_H) :=
  k134 a0 a1 a3 (a4 + nI 1) ph
theorem r_Scribe_mergeSymbols_185 {l : Launch} {g : px_G} {d F : Nat} {k134 : Nat → Nat → Int32 → Int32 → px_H → Option (Unit × px_H)} (hk134 : ∀ {a0 : Nat} {a1 : Nat} {a3 : Int32} {a4 : Int32} {ph : px_H} {r : Unit} {ph' : px_H}, k134 a0 a1 a3 a4 ph = some (r, ph') → PW l g (d + 5) m_Scribe_mergeSymbols 134 [.ref a0, .ref a1, px_u, .int a3, .int a4, px_u] [] ph (px_qV r ph')) {a0 : Nat} {a1 : Nat} {a3 : Int32} {a4 : Int32} {ph : px_H} {r : Unit} {ph' : px_H} (h : f_Scribe_mergeSymbols_185 F (px_ct g) k134 a0 a1 a3 a4 ph = some (r, ph')) : PW l g (d + 5) m_Scribe_mergeSymbols 185 [.ref a0, .ref a1, px_u, .int a3, .int a4, px_u] [] ph (px_qV r ph') := by
  unfold f_Scribe_mergeSymbols_185 at h
  refine px_iinc (lv' := [_, _, _, _, _, _]) rfl rfl rfl rfl rfl rfl ?_
  refine px_goto rfl (by decide) rfl ?_
  exact (hk134 h :)
def f_Scribe_mergeSymbols_134 (F : Nat) (c : px_CT) : Nat → Nat → Nat → Int32 → Int32 → px_H → Option (Unit × px_H)
  | 0, _, _, _, _, _ => none
  | n + 1, a0, a1, a3, a4, ph =>
    (xgI ph 11 6 a0).bind fun t1 =>
    if t1 ≤ a4 then
      f_Scribe_mergeSymbols_191 F c ph
    else
      (xgR ph 11 5 a0).bind fun t2 =>
      (xal ph 5 t2).bind fun t3 =>
      if t3 ≤ a4 then
        f_Scribe_mergeSymbols_191 F c ph
      else
        (xgR ph 11 5 a0).bind fun t4 =>
        (xaN ph 5 t4 a4).bind fun t5 =>
        (match t5 with
          | none => f_Scribe_mergeSymbols_185 F c (f_Scribe_mergeSymbols_134 F c n) a0 a1 a3 a4 ph
          | some p6 => (xo ph 11 a0).bind fun _ =>
          xb (f_Scribe_mergeName F c a0 a1 (some p6) a3 ph) fun _ ph7 =>
          (xgI ph7 5 3 p6).bind fun t8 =>
          f_Scribe_mergeSymbols_185 F c (f_Scribe_mergeSymbols_134 F c n) a0 a1 (a3 + (t8 + (nI 1))) a4 ph7)
theorem r_Scribe_mergeSymbols_134 {l : Launch} {g : px_G} {d F : Nat} : ∀ (n : Nat) {a0 : Nat} {a1 : Nat} {a3 : Int32} {a4 : Int32} {ph : px_H} {r : Unit} {ph' : px_H}, f_Scribe_mergeSymbols_134 F (px_ct g) n a0 a1 a3 a4 ph = some (r, ph') → PW l g (d + 5) m_Scribe_mergeSymbols 134 [.ref a0, .ref a1, px_u, .int a3, .int a4, px_u] [] ph (px_qV r ph') := by
  intro n
  induction n with
  | zero => intro _ _ _ _ _ _ _ h; cases h
  | succ n ih =>
    intro a0 a1 a3 a4 ph r ph' h
    unfold f_Scribe_mergeSymbols_134 at h
    refine px_ld rfl rfl rfl rfl rfl ?_
    refine px_ld rfl rfl rfl rfl rfl ?_
    obtain ⟨t1, h0, h⟩ := xs_some h
    obtain ⟨fs, e1, e2⟩ := xgI_some h0
    refine px_get rfl e1 e2 rfl ?_
    refine px_icge rfl (by decide) rfl (fun hc => ?_) (fun hc => ?_)
    · replace h := (if_pos hc).symm.trans h
      refine px_forget (n := 0) (lv' := [_, _, _, _, _, _]) rfl ?_
      refine px_forget (n := 1) (lv' := [_, _, _, _, _, _]) rfl ?_
      refine px_forget (n := 3) (lv' := [_, _, _, _, _, _]) rfl ?_
      refine px_forget (n := 4) (lv' := [_, _, _, _, _, _]) rfl ?_
      exact (r_Scribe_mergeSymbols_191 h :)
    · replace h := (if_neg hc).symm.trans h
      refine px_ld rfl rfl rfl rfl rfl ?_
      refine px_ld rfl rfl rfl rfl rfl ?_
      obtain ⟨t2, h0, h⟩ := xs_some h
      obtain ⟨fs, e1, e2⟩ := xgR_some h0
      refine px_get rfl e1 e2 rfl ?_
      obtain ⟨t3, h0, h⟩ := xs_some h
      obtain ⟨x, e1, e3⟩ := xal_some h0
      subst e3
      refine px_alen rfl e1 rfl rfl ?_
      refine px_icge rfl (by decide) rfl (fun hc => ?_) (fun hc => ?_)
      · replace h := (if_pos hc).symm.trans h
        refine px_forget (n := 0) (lv' := [_, _, _, _, _, _]) rfl ?_
        refine px_forget (n := 1) (lv' := [_, _, _, _, _, _]) rfl ?_
        refine px_forget (n := 3) (lv' := [_, _, _, _, _, _]) rfl ?_
        refine px_forget (n := 4) (lv' := [_, _, _, _, _, _]) rfl ?_
        exact (r_Scribe_mergeSymbols_191 h :)
      · replace h := (if_neg hc).symm.trans h
        refine px_ld rfl rfl rfl rfl rfl ?_
        obtain ⟨t4, h0, h⟩ := xs_some h
        obtain ⟨fs, e1, e2⟩ := xgR_some h0
        refine px_get rfl e1 e2 rfl ?_
        refine px_ld rfl rfl rfl rfl rfl ?_
        obtain ⟨t5, h0, h⟩ := xs_some h
        obtain ⟨N, f, e1, e2, e3⟩ := xaN_some h0
        refine px_aaldO rfl e1 rfl e2 e3 rfl ?_
        refine px_st (lv' := [.ref a0, .ref a1, px_u, .int a3, .int a4, va_rf t5]) rfl rfl (by first | rfl | (cases t5 <;> rfl)) (by first | rfl | (cases t5 <;> rfl)) rfl (by first | rfl | (cases t5 <;> rfl)) rfl ?_
        refine px_ld rfl rfl rfl (by first | rfl | (cases t5 <;> rfl)) rfl ?_
        cases t5 with
        | none =>
          refine px_ifnullN rfl (by decide) rfl ?_
          refine px_forget (n := 5) (lv' := [_, _, _, _, _, _]) rfl ?_
          exact (r_Scribe_mergeSymbols_185 @ih h :)
        | some p6 =>
          refine px_ifnullR rfl rfl ?_
          refine px_ld rfl rfl rfl rfl rfl ?_
          refine px_ld rfl rfl rfl rfl rfl ?_
          refine px_ld rfl rfl rfl rfl rfl ?_
          refine px_ld rfl rfl rfl rfl rfl ?_
          obtain ⟨fs, h0, h⟩ := xs_some h
          have e1 := xo_some h0
          obtain ⟨u0, ph7, h0, h⟩ := xb_some h
          refine px_cV3 rfl rfl e1 rfl rfl rfl rfl rfl rfl rfl (r_Scribe_mergeName h0 :) (fun _ _ q => nomatch q.2) (fun r ph' q => ?_)
          obtain ⟨rfl, q⟩ := q
          cases q
          refine px_ld rfl rfl rfl rfl rfl ?_
          refine px_ld rfl rfl rfl rfl rfl ?_
          obtain ⟨t8, h0, h⟩ := xs_some h
          obtain ⟨fs, e1, e2⟩ := xgI_some h0
          refine px_get rfl e1 e2 rfl ?_
          refine px_ic (k := 1) rfl rfl rfl ?_
          refine px_alu rfl rfl rfl ?_
          refine px_alu rfl rfl rfl ?_
          refine px_st (lv' := [_, _, _, _, _, _]) rfl rfl rfl rfl rfl rfl rfl ?_
          refine px_forget (n := 5) (lv' := [_, _, _, _, _, _]) rfl ?_
          exact (r_Scribe_mergeSymbols_185 @ih h :)
def f_Scribe_mergeSymbols_129 (F : Nat) (c : px_CT) (a0 : Nat) (a1 : Nat) (ph : px_H) : Option (Unit × px_H) :=
  f_Scribe_mergeSymbols_134 F c F a0 a1 (nI 1) (nI 0) ph
theorem r_Scribe_mergeSymbols_129 {l : Launch} {g : px_G} {d F : Nat} {a0 : Nat} {a1 : Nat} {ph : px_H} {r : Unit} {ph' : px_H} (h : f_Scribe_mergeSymbols_129 F (px_ct g) a0 a1 ph = some (r, ph')) : PW l g (d + 5) m_Scribe_mergeSymbols 129 [.ref a0, .ref a1, px_u, px_u, px_u, px_u] [] ph (px_qV r ph') := by
  unfold f_Scribe_mergeSymbols_129 at h
  refine px_ic (k := 1) rfl rfl rfl ?_
  refine px_st (lv' := [_, _, _, _, _, _]) rfl rfl rfl rfl rfl rfl rfl ?_
  refine px_ic (k := 0) rfl rfl rfl ?_
  refine px_st (lv' := [_, _, _, _, _, _]) rfl rfl rfl rfl rfl rfl rfl ?_
  exact (r_Scribe_mergeSymbols_134 _ h :)
def f_Scribe_mergeSymbols_123 (F : Nat) (c : px_CT) (k62 : Nat → Nat → Int32 → px_H → Option (Unit × px_H)) (a0 : Nat) (a1 : Nat) (a3 : Int32) (ph : px_H) : Option (Unit × px_H) :=
  k62 a0 a1 (a3 + nI 1) ph
theorem r_Scribe_mergeSymbols_123 {l : Launch} {g : px_G} {d F : Nat} {k62 : Nat → Nat → Int32 → px_H → Option (Unit × px_H)} (hk62 : ∀ {a0 : Nat} {a1 : Nat} {a3 : Int32} {ph : px_H} {r : Unit} {ph' : px_H}, k62 a0 a1 a3 ph = some (r, ph') → PW l g (d + 5) m_Scribe_mergeSymbols 62 [.ref a0, .ref a1, px_u, .int a3, px_u, px_u] [] ph (px_qV r ph')) {a0 : Nat} {a1 : Nat} {a3 : Int32} {ph : px_H} {r : Unit} {ph' : px_H} (h : f_Scribe_mergeSymbols_123 F (px_ct g) k62 a0 a1 a3 ph = some (r, ph')) : PW l g (d + 5) m_Scribe_mergeSymbols 123 [.ref a0, .ref a1, px_u, .int a3, px_u, px_u] [] ph (px_qV r ph') := by
  unfold f_Scribe_mergeSymbols_123 at h
  refine px_iinc (lv' := [_, _, _, _, _, _]) rfl rfl rfl rfl rfl rfl ?_
  refine px_goto rfl (by decide) rfl ?_
  exact (hk62 h :)
def f_Scribe_mergeSymbols_117 (F : Nat) (c : px_CT) (k62 : Nat → Nat → Int32 → px_H → Option (Unit × px_H)) (k86 : Nat → Nat → Int32 → Option Nat → Int32 → px_H → Option (Unit × px_H)) (a0 : Nat) (a1 : Nat) (a3 : Int32) (a4 : Option Nat) (a5 : Int32) (ph : px_H) : Option (Unit × px_H) :=
  k86 a0 a1 a3 a4 (a5 + nI 1) ph
theorem r_Scribe_mergeSymbols_117 {l : Launch} {g : px_G} {d F : Nat} {k62 : Nat → Nat → Int32 → px_H → Option (Unit × px_H)} (hk62 : ∀ {a0 : Nat} {a1 : Nat} {a3 : Int32} {ph : px_H} {r : Unit} {ph' : px_H}, k62 a0 a1 a3 ph = some (r, ph') → PW l g (d + 5) m_Scribe_mergeSymbols 62 [.ref a0, .ref a1, px_u, .int a3, px_u, px_u] [] ph (px_qV r ph')) {k86 : Nat → Nat → Int32 → Option Nat → Int32 → px_H → Option (Unit × px_H)} (hk86 : ∀ {a0 : Nat} {a1 : Nat} {a3 : Int32} {a4 : Option Nat} {a5 : Int32} {ph : px_H} {r : Unit} {ph' : px_H}, k86 a0 a1 a3 a4 a5 ph = some (r, ph') → PW l g (d + 5) m_Scribe_mergeSymbols 86 [.ref a0, .ref a1, px_u, .int a3, va_rf a4, .int a5] [] ph (px_qV r ph')) {a0 : Nat} {a1 : Nat} {a3 : Int32} {a4 : Option Nat} {a5 : Int32} {ph : px_H} {r : Unit} {ph' : px_H} (h : f_Scribe_mergeSymbols_117 F (px_ct g) k62 k86 a0 a1 a3 a4 a5 ph = some (r, ph')) : PW l g (d + 5) m_Scribe_mergeSymbols 117 [.ref a0, .ref a1, px_u, .int a3, va_rf a4, .int a5] [] ph (px_qV r ph') := by
  unfold f_Scribe_mergeSymbols_117 at h
  refine px_iinc (lv' := [_, _, _, _, _, _]) rfl rfl rfl (by first | rfl | (cases a4 <;> rfl)) rfl rfl ?_
  refine px_goto rfl (by decide) rfl ?_
  exact (hk86 h :)
def f_Scribe_mergeSymbols_86 (F : Nat) (c : px_CT) (k62 : Nat → Nat → Int32 → px_H → Option (Unit × px_H)) : Nat → Nat → Nat → Int32 → Option Nat → Int32 → px_H → Option (Unit × px_H)
  | 0, _, _, _, _, _, _ => none
  | n + 1, a0, a1, a3, a4, a5, ph =>
    (a4).bind fun p1 =>
    (xgI ph 7 11 p1).bind fun t2 =>
    if t2 ≤ a5 then
      f_Scribe_mergeSymbols_123 F c k62 a0 a1 a3 ph
    else
      (xgR ph 11 0 a0).bind fun t3 =>
      (xo ph 3 t3).bind fun _ =>
      xb (f_Link_nameOf F c t3 a3 a5 ph) fun t4 ph5 =>
      (match t4 with
        | none => (xo ph5 11 a0).bind fun _ =>
        xb (f_Scribe_mergeLocal F c a0 a1 a3 a5 ph5) fun _ ph7 =>
        f_Scribe_mergeSymbols_117 F c k62 (f_Scribe_mergeSymbols_86 F c k62 n) a0 a1 a3 (some p1) a5 ph7
        | some p6 => f_Scribe_mergeSymbols_117 F c k62 (f_Scribe_mergeSymbols_86 F c k62 n) a0 a1 a3 (some p1) a5 ph5)
theorem r_Scribe_mergeSymbols_86 {l : Launch} {g : px_G} {d F : Nat} {k62 : Nat → Nat → Int32 → px_H → Option (Unit × px_H)} (hk62 : ∀ {a0 : Nat} {a1 : Nat} {a3 : Int32} {ph : px_H} {r : Unit} {ph' : px_H}, k62 a0 a1 a3 ph = some (r, ph') → PW l g (d + 5) m_Scribe_mergeSymbols 62 [.ref a0, .ref a1, px_u, .int a3, px_u, px_u] [] ph (px_qV r ph')) : ∀ (n : Nat) {a0 : Nat} {a1 : Nat} {a3 : Int32} {a4 : Option Nat} {a5 : Int32} {ph : px_H} {r : Unit} {ph' : px_H}, f_Scribe_mergeSymbols_86 F (px_ct g) k62 n a0 a1 a3 a4 a5 ph = some (r, ph') → PW l g (d + 5) m_Scribe_mergeSymbols 86 [.ref a0, .ref a1, px_u, .int a3, va_rf a4, .int a5] [] ph (px_qV r ph') := by
  intro n
  induction n with
  | zero => intro _ _ _ _ _ _ _ _ h; cases h
  | succ n ih =>
    intro a0 a1 a3 a4 a5 ph r ph' h
    unfold f_Scribe_mergeSymbols_86 at h
    refine px_ld rfl rfl rfl rfl rfl ?_
    refine px_ld rfl rfl rfl (by first | rfl | (cases a4 <;> rfl)) rfl ?_
    obtain ⟨p1, h0, h⟩ := xs_some h
    revert h
    subst h0
    intro h
    obtain ⟨t2, h0, h⟩ := xs_some h
    obtain ⟨fs, e1, e2⟩ := xgI_some h0
    refine px_get rfl e1 e2 rfl ?_
    refine px_icge rfl (by decide) rfl (fun hc => ?_) (fun hc => ?_)
    · replace h := (if_pos hc).symm.trans h
      refine px_forget (n := 4) (lv' := [_, _, _, _, _, _]) rfl ?_
      refine px_forget (n := 5) (lv' := [_, _, _, _, _, _]) rfl ?_
      exact (r_Scribe_mergeSymbols_123 @hk62 h :)
    · replace h := (if_neg hc).symm.trans h
      refine px_ld rfl rfl rfl rfl rfl ?_
      obtain ⟨t3, h0, h⟩ := xs_some h
      obtain ⟨fs, e1, e2⟩ := xgR_some h0
      refine px_get rfl e1 e2 rfl ?_
      refine px_ld rfl rfl rfl rfl rfl ?_
      refine px_ld rfl rfl rfl rfl rfl ?_
      obtain ⟨fs, h0, h⟩ := xs_some h
      have e1 := xo_some h0
      obtain ⟨t4, ph5, h0, h⟩ := xb_some h
      refine px_cV2 rfl rfl e1 rfl rfl rfl rfl rfl rfl rfl (r_Link_nameOf h0 :) (fun _ _ q => nomatch q.2) (fun r ph' q => ?_)
      obtain ⟨rfl, q⟩ := q
      cases q
      cases t4 with
      | none =>
        refine px_ifnnN rfl rfl ?_
        refine px_ld rfl rfl rfl rfl rfl ?_
        refine px_ld rfl rfl rfl rfl rfl ?_
        refine px_ld rfl rfl rfl rfl rfl ?_
        refine px_ld rfl rfl rfl rfl rfl ?_
        obtain ⟨fs, h0, h⟩ := xs_some h
        have e1 := xo_some h0
        obtain ⟨u0, ph7, h0, h⟩ := xb_some h
        refine px_cV3 rfl rfl e1 rfl rfl rfl rfl rfl rfl rfl (r_Scribe_mergeLocal h0 :) (fun _ _ q => nomatch q.2) (fun r ph' q => ?_)
        obtain ⟨rfl, q⟩ := q
        cases q
        exact (r_Scribe_mergeSymbols_117 @hk62 @ih h :)
      | some p6 =>
        refine px_ifnnR rfl (by decide) rfl ?_
        exact (r_Scribe_mergeSymbols_117 @hk62 @ih h :)
def f_Scribe_mergeSymbols_62 (F : Nat) (c : px_CT) : Nat → Nat → Nat → Int32 → px_H → Option (Unit × px_H)
  | 0, _, _, _, _ => none
  | n + 1, a0, a1, a3, ph =>
    (xgR ph 11 0 a0).bind fun t1 =>
    (xgI ph 3 14 t1).bind fun t2 =>
    if t2 ≤ a3 then
      f_Scribe_mergeSymbols_129 F c a0 a1 ph
    else
      (xgR ph 11 0 a0).bind fun t3 =>
      (xo ph 3 t3).bind fun _ =>
      xb (f_Link_object F c t3 a3 ph) fun t4 ph5 =>
      f_Scribe_mergeSymbols_86 F c (f_Scribe_mergeSymbols_62 F c n) F a0 a1 a3 t4 (nI 1) ph5
theorem r_Scribe_mergeSymbols_62 {l : Launch} {g : px_G} {d F : Nat} : ∀ (n : Nat) {a0 : Nat} {a1 : Nat} {a3 : Int32} {ph : px_H} {r : Unit} {ph' : px_H}, f_Scribe_mergeSymbols_62 F (px_ct g) n a0 a1 a3 ph = some (r, ph') → PW l g (d + 5) m_Scribe_mergeSymbols 62 [.ref a0, .ref a1, px_u, .int a3, px_u, px_u] [] ph (px_qV r ph') := by
  intro n
  induction n with
  | zero => intro _ _ _ _ _ _ h; cases h
  | succ n ih =>
    intro a0 a1 a3 ph r ph' h
    unfold f_Scribe_mergeSymbols_62 at h
    refine px_ld rfl rfl rfl rfl rfl ?_
    refine px_ld rfl rfl rfl rfl rfl ?_
    obtain ⟨t1, h0, h⟩ := xs_some h
    obtain ⟨fs, e1, e2⟩ := xgR_some h0
    refine px_get rfl e1 e2 rfl ?_
    obtain ⟨t2, h0, h⟩ := xs_some h
    obtain ⟨fs, e1, e2⟩ := xgI_some h0
    refine px_get rfl e1 e2 rfl ?_
    refine px_icge rfl (by decide) rfl (fun hc => ?_) (fun hc => ?_)
    · replace h := (if_pos hc).symm.trans h
      refine px_forget (n := 3) (lv' := [_, _, _, _, _, _]) rfl ?_
      exact (r_Scribe_mergeSymbols_129 h :)
    · replace h := (if_neg hc).symm.trans h
      refine px_ld rfl rfl rfl rfl rfl ?_
      obtain ⟨t3, h0, h⟩ := xs_some h
      obtain ⟨fs, e1, e2⟩ := xgR_some h0
      refine px_get rfl e1 e2 rfl ?_
      refine px_ld rfl rfl rfl rfl rfl ?_
      obtain ⟨fs, h0, h⟩ := xs_some h
      have e1 := xo_some h0
      obtain ⟨t4, ph5, h0, h⟩ := xb_some h
      refine px_cV1 rfl rfl e1 rfl rfl rfl rfl rfl rfl rfl (r_Link_object h0 :) (fun _ _ q => nomatch q.2) (fun r ph' q => ?_)
      obtain ⟨rfl, q⟩ := q
      cases q
      refine px_st (lv' := [.ref a0, .ref a1, px_u, .int a3, va_rf t4, px_u]) rfl rfl (by first | rfl | (cases t4 <;> rfl)) (by first | rfl | (cases t4 <;> rfl)) rfl (by first | rfl | (cases t4 <;> rfl)) rfl ?_
      refine px_ic (k := 1) rfl rfl rfl ?_
      refine px_st (lv' := [.ref a0, .ref a1, px_u, .int a3, va_rf t4, .int (nI 1)]) rfl rfl rfl rfl (by first | rfl | (cases t4 <;> rfl)) rfl rfl ?_
      exact (r_Scribe_mergeSymbols_86 @ih _ h :)
def f_Scribe_mergeSymbols (F : Nat) (c : px_CT) (a0 : Nat) (a1 : Nat) (ph : px_H) : Option (Unit × px_H) :=
  (xgI ph 11 7 a0).bind fun t1 =>
  (xgI ph 11 6 a0).bind fun t2 =>
  xb (f_Scribe_nextPlace F c a1 ph) fun t3 ph4 =>
  (xgI ph4 11 8 a0).bind fun t5 =>
  (xgI ph4 11 7 a0).bind fun t6 =>
  (xo ph4 11 a0).bind fun _ =>
  xb (f_Scribe_putRow F c a0 ((2 : Int64)) (lN 0) t3.toInt64 (((nI 24) * (t1 + t2)).toInt64) (t5 + (nI 1)) t6 ph4) fun _ ph7 =>
  (xo ph7 11 a0).bind fun _ =>
  xb (f_Scribe_endRow F c a0 ((8 : Int64)) (nI 24) ph7) fun _ ph8 =>
  (xgI ph8 10 1 a1).bind fun t9 =>
  (xo ph8 10 a1).bind fun _ =>
  xb (f_Row_fillTo F c a1 ((t9 + (nI 24)).toInt64) (nI 0) ph8) fun _ ph10 =>
  f_Scribe_mergeSymbols_62 F c F a0 a1 (nI 0) ph10
theorem r_Scribe_mergeSymbols {l : Launch} {g : px_G} {d F : Nat} {a0 : Nat} {a1 : Nat} {ph : px_H} {r : Unit} {ph' : px_H} (h : f_Scribe_mergeSymbols F (px_ct g) a0 a1 ph = some (r, ph')) : PW l g (d + 5) m_Scribe_mergeSymbols 0 [.ref a0, .ref a1, px_u, px_u, px_u, px_u] [] ph (px_qV r ph') := by
  unfold f_Scribe_mergeSymbols at h
  refine px_ic (k := 24) rfl rfl rfl ?_
  refine px_ld rfl rfl rfl rfl rfl ?_
  obtain ⟨t1, h0, h⟩ := xs_some h
  obtain ⟨fs, e1, e2⟩ := xgI_some h0
  refine px_get rfl e1 e2 rfl ?_
  refine px_ld rfl rfl rfl rfl rfl ?_
  obtain ⟨t2, h0, h⟩ := xs_some h
  obtain ⟨fs, e1, e2⟩ := xgI_some h0
  refine px_get rfl e1 e2 rfl ?_
  refine px_alu rfl rfl rfl ?_
  refine px_alu rfl rfl rfl ?_
  refine px_st (lv' := [_, _, _, _, _, _]) rfl rfl rfl rfl rfl rfl rfl ?_
  refine px_ld rfl rfl rfl rfl rfl ?_
  refine px_ldc2 rfl rfl rfl ?_
  refine px_alu rfl rfl rfl ?_
  refine px_ld rfl rfl rfl rfl rfl ?_
  obtain ⟨t3, ph4, h0, h⟩ := xb_some h
  refine px_cS1 rfl rfl rfl rfl rfl rfl rfl (r_Scribe_nextPlace h0 :) (fun _ _ q => nomatch q.2) (fun r ph' q => ?_)
  obtain ⟨rfl, q⟩ := q
  cases q
  refine px_alu rfl rfl rfl ?_
  refine px_ld rfl rfl rfl rfl rfl ?_
  refine px_alu rfl rfl rfl ?_
  refine px_ld rfl rfl rfl rfl rfl ?_
  obtain ⟨t5, h0, h⟩ := xs_some h
  obtain ⟨fs, e1, e2⟩ := xgI_some h0
  refine px_get rfl e1 e2 rfl ?_
  refine px_ic (k := 1) rfl rfl rfl ?_
  refine px_alu rfl rfl rfl ?_
  refine px_ld rfl rfl rfl rfl rfl ?_
  obtain ⟨t6, h0, h⟩ := xs_some h
  obtain ⟨fs, e1, e2⟩ := xgI_some h0
  refine px_get rfl e1 e2 rfl ?_
  obtain ⟨fs, h0, h⟩ := xs_some h
  have e1 := xo_some h0
  obtain ⟨u0, ph7, h0, h⟩ := xb_some h
  refine px_cV6 rfl rfl e1 rfl rfl rfl rfl rfl rfl rfl (r_Scribe_putRow h0 :) (fun _ _ q => nomatch q.2) (fun r ph' q => ?_)
  obtain ⟨rfl, q⟩ := q
  cases q
  refine px_ld rfl rfl rfl rfl rfl ?_
  refine px_ldc2 rfl rfl rfl ?_
  refine px_ic (k := 24) rfl rfl rfl ?_
  obtain ⟨fs, h0, h⟩ := xs_some h
  have e1 := xo_some h0
  obtain ⟨u0, ph8, h0, h⟩ := xb_some h
  refine px_cV2 rfl rfl e1 rfl rfl rfl rfl rfl rfl rfl (r_Scribe_endRow h0 :) (fun _ _ q => nomatch q.2) (fun r ph' q => ?_)
  obtain ⟨rfl, q⟩ := q
  cases q
  refine px_ld rfl rfl rfl rfl rfl ?_
  refine px_ld rfl rfl rfl rfl rfl ?_
  obtain ⟨t9, h0, h⟩ := xs_some h
  obtain ⟨fs, e1, e2⟩ := xgI_some h0
  refine px_get rfl e1 e2 rfl ?_
  refine px_ic (k := 24) rfl rfl rfl ?_
  refine px_alu rfl rfl rfl ?_
  refine px_alu rfl rfl rfl ?_
  refine px_ic (k := 0) rfl rfl rfl ?_
  obtain ⟨fs, h0, h⟩ := xs_some h
  have e1 := xo_some h0
  obtain ⟨u0, ph10, h0, h⟩ := xb_some h
  refine px_cV2 rfl rfl e1 rfl rfl rfl rfl rfl rfl rfl (r_Row_fillTo h0 :) (fun _ _ q => nomatch q.2) (fun r ph' q => ?_)
  obtain ⟨rfl, q⟩ := q
  cases q
  refine px_ic (k := 0) rfl rfl rfl ?_
  refine px_st (lv' := [_, _, _, _, _, _]) rfl rfl rfl rfl rfl rfl rfl ?_
  refine px_forget (n := 2) (lv' := [_, _, _, _, _, _]) rfl ?_
  exact (r_Scribe_mergeSymbols_62 _ h :)
def f_Scribe_mergeNames_133 (F : Nat) (c : px_CT) (ph : px_H) : Option (Unit × px_H) :=
  some ((), ph)
theorem r_Scribe_mergeNames_133 {l : Launch} {g : px_G} {d F : Nat} {ph : px_H} {r : Unit} {ph' : px_H} (h : f_Scribe_mergeNames_133 F (px_ct g) ph = some (r, ph')) : PW l g (d + 5) m_Scribe_mergeNames 133 [px_u, px_u, px_u, px_u] [] ph (px_qV r ph') := by
  unfold f_Scribe_mergeNames_133 at h
  cases h
  exact px_vret rfl rfl rfl ⟨rfl, rfl⟩
def f_Scribe_mergeNames_127 (F : Nat) (c : px_CT) (k85 : Nat → Nat → Int32 → px_H → Option (Unit × px_H)) (a0 : Nat) (a1 : Nat) (a3 : Int32) (ph : px_H) : Option (Unit × px_H) :=
  k85 a0 a1 (a3 + nI 1) ph
theorem r_Scribe_mergeNames_127 {l : Launch} {g : px_G} {d F : Nat} {k85 : Nat → Nat → Int32 → px_H → Option (Unit × px_H)} (hk85 : ∀ {a0 : Nat} {a1 : Nat} {a3 : Int32} {ph : px_H} {r : Unit} {ph' : px_H}, k85 a0 a1 a3 ph = some (r, ph') → PW l g (d + 5) m_Scribe_mergeNames 85 [.ref a0, .ref a1, px_u, .int a3] [] ph (px_qV r ph')) {a0 : Nat} {a1 : Nat} {a3 : Int32} {ph : px_H} {r : Unit} {ph' : px_H} (h : f_Scribe_mergeNames_127 F (px_ct g) k85 a0 a1 a3 ph = some (r, ph')) : PW l g (d + 5) m_Scribe_mergeNames 127 [.ref a0, .ref a1, px_u, .int a3] [] ph (px_qV r ph') := by
  unfold f_Scribe_mergeNames_127 at h
  refine px_iinc (lv' := [_, _, _, _]) rfl rfl rfl rfl rfl rfl ?_
  refine px_goto rfl (by decide) rfl ?_
  exact (hk85 h :)
def f_Scribe_mergeNames_85 (F : Nat) (c : px_CT) : Nat → Nat → Nat → Int32 → px_H → Option (Unit × px_H)
  | 0, _, _, _, _ => none
  | n + 1, a0, a1, a3, ph =>
    (xgI ph 11 6 a0).bind fun t1 =>
    if t1 ≤ a3 then
      f_Scribe_mergeNames_133 F c ph
    else
      (xgR ph 11 5 a0).bind fun t2 =>
      (xal ph 5 t2).bind fun t3 =>
      if t3 ≤ a3 then
        f_Scribe_mergeNames_133 F c ph
      else
        (xgR ph 11 5 a0).bind fun t4 =>
        (xaN ph 5 t4 a3).bind fun t5 =>
        (match t5 with
          | none => f_Scribe_mergeNames_127 F c (f_Scribe_mergeNames_85 F c n) a0 a1 a3 ph
          | some p6 => (xgR ph 11 5 a0).bind fun t7 =>
          (xaN ph 5 t7 a3).bind fun t8 =>
          (t8).bind fun p9 =>
          (xo ph 5 p9).bind fun _ =>
          xb (f_Name_writeTo F c p9 a1 ph) fun _ ph10 =>
          (xo ph10 10 a1).bind fun _ =>
          xb (f_Row_put F c a1 (nI 1) (lN 0) ph10) fun _ ph11 =>
          f_Scribe_mergeNames_127 F c (f_Scribe_mergeNames_85 F c n) a0 a1 a3 ph11)
theorem r_Scribe_mergeNames_85 {l : Launch} {g : px_G} {d F : Nat} : ∀ (n : Nat) {a0 : Nat} {a1 : Nat} {a3 : Int32} {ph : px_H} {r : Unit} {ph' : px_H}, f_Scribe_mergeNames_85 F (px_ct g) n a0 a1 a3 ph = some (r, ph') → PW l g (d + 5) m_Scribe_mergeNames 85 [.ref a0, .ref a1, px_u, .int a3] [] ph (px_qV r ph') := by
  intro n
  induction n with
  | zero => intro _ _ _ _ _ _ h; cases h
  | succ n ih =>
    intro a0 a1 a3 ph r ph' h
    unfold f_Scribe_mergeNames_85 at h
    refine px_ld rfl rfl rfl rfl rfl ?_
    refine px_ld rfl rfl rfl rfl rfl ?_
    obtain ⟨t1, h0, h⟩ := xs_some h
    obtain ⟨fs, e1, e2⟩ := xgI_some h0
    refine px_get rfl e1 e2 rfl ?_
    refine px_icge rfl (by decide) rfl (fun hc => ?_) (fun hc => ?_)
    · replace h := (if_pos hc).symm.trans h
      refine px_forget (n := 0) (lv' := [_, _, _, _]) rfl ?_
      refine px_forget (n := 1) (lv' := [_, _, _, _]) rfl ?_
      refine px_forget (n := 3) (lv' := [_, _, _, _]) rfl ?_
      exact (r_Scribe_mergeNames_133 h :)
    · replace h := (if_neg hc).symm.trans h
      refine px_ld rfl rfl rfl rfl rfl ?_
      refine px_ld rfl rfl rfl rfl rfl ?_
      obtain ⟨t2, h0, h⟩ := xs_some h
      obtain ⟨fs, e1, e2⟩ := xgR_some h0
      refine px_get rfl e1 e2 rfl ?_
      obtain ⟨t3, h0, h⟩ := xs_some h
      obtain ⟨x, e1, e3⟩ := xal_some h0
      subst e3
      refine px_alen rfl e1 rfl rfl ?_
      refine px_icge rfl (by decide) rfl (fun hc => ?_) (fun hc => ?_)
      · replace h := (if_pos hc).symm.trans h
        refine px_forget (n := 0) (lv' := [_, _, _, _]) rfl ?_
        refine px_forget (n := 1) (lv' := [_, _, _, _]) rfl ?_
        refine px_forget (n := 3) (lv' := [_, _, _, _]) rfl ?_
        exact (r_Scribe_mergeNames_133 h :)
      · replace h := (if_neg hc).symm.trans h
        refine px_ld rfl rfl rfl rfl rfl ?_
        obtain ⟨t4, h0, h⟩ := xs_some h
        obtain ⟨fs, e1, e2⟩ := xgR_some h0
        refine px_get rfl e1 e2 rfl ?_
        refine px_ld rfl rfl rfl rfl rfl ?_
        obtain ⟨t5, h0, h⟩ := xs_some h
        obtain ⟨N, f, e1, e2, e3⟩ := xaN_some h0
        refine px_aaldO rfl e1 rfl e2 e3 rfl ?_
        cases t5 with
        | none =>
          refine px_ifnullN rfl (by decide) rfl ?_
          exact (r_Scribe_mergeNames_127 @ih h :)
        | some p6 =>
          refine px_ifnullR rfl rfl ?_
          refine px_ld rfl rfl rfl rfl rfl ?_
          obtain ⟨t7, h0, h⟩ := xs_some h
          obtain ⟨fs, e1, e2⟩ := xgR_some h0
          refine px_get rfl e1 e2 rfl ?_
          refine px_ld rfl rfl rfl rfl rfl ?_
          obtain ⟨t8, h0, h⟩ := xs_some h
          obtain ⟨N, f, e1, e2, e3⟩ := xaN_some h0
          refine px_aaldO rfl e1 rfl e2 e3 rfl ?_
          refine px_ld rfl rfl rfl rfl rfl ?_
          obtain ⟨p9, h0, h⟩ := xs_some h
          revert h
          subst h0
          intro h
          obtain ⟨fs, h0, h⟩ := xs_some h
          have e1 := xo_some h0
          obtain ⟨u0, ph10, h0, h⟩ := xb_some h
          refine px_cV1 rfl rfl e1 rfl rfl rfl rfl rfl rfl rfl (r_Name_writeTo h0 :) (fun _ _ q => nomatch q.2) (fun r ph' q => ?_)
          obtain ⟨rfl, q⟩ := q
          cases q
          refine px_ld rfl rfl rfl rfl rfl ?_
          refine px_ic (k := 1) rfl rfl rfl ?_
          refine px_alu rfl rfl rfl ?_
          obtain ⟨fs, h0, h⟩ := xs_some h
          have e1 := xo_some h0
          obtain ⟨u0, ph11, h0, h⟩ := xb_some h
          refine px_cV2 rfl rfl e1 rfl rfl rfl rfl rfl rfl rfl (r_Row_put h0 :) (fun _ _ q => nomatch q.2) (fun r ph' q => ?_)
          obtain ⟨rfl, q⟩ := q
          cases q
          exact (r_Scribe_mergeNames_127 @ih h :)
def f_Scribe_mergeNames_54 (F : Nat) (c : px_CT) (a0 : Nat) (a1 : Nat) (a2 : Int32) (ph : px_H) : Option (Unit × px_H) :=
  xb (f_Scribe_nextPlace F c a1 ph) fun t1 ph2 =>
  (xo ph2 11 a0).bind fun _ =>
  xb (f_Scribe_putRow F c a0 ((3 : Int64)) (lN 0) t1.toInt64 a2.toInt64 (nI 0) (nI 0) ph2) fun _ ph3 =>
  (xo ph3 11 a0).bind fun _ =>
  xb (f_Scribe_endRow F c a0 (lN 1) (nI 0) ph3) fun _ ph4 =>
  (xo ph4 10 a1).bind fun _ =>
  xb (f_Row_put F c a1 (nI 1) (lN 0) ph4) fun _ ph5 =>
  f_Scribe_mergeNames_85 F c F a0 a1 (nI 0) ph5
theorem r_Scribe_mergeNames_54 {l : Launch} {g : px_G} {d F : Nat} {a0 : Nat} {a1 : Nat} {a2 : Int32} {ph : px_H} {r : Unit} {ph' : px_H} (h : f_Scribe_mergeNames_54 F (px_ct g) a0 a1 a2 ph = some (r, ph')) : PW l g (d + 5) m_Scribe_mergeNames 54 [.ref a0, .ref a1, .int a2, px_u] [] ph (px_qV r ph') := by
  unfold f_Scribe_mergeNames_54 at h
  refine px_ld rfl rfl rfl rfl rfl ?_
  refine px_ldc2 rfl rfl rfl ?_
  refine px_alu rfl rfl rfl ?_
  refine px_ld rfl rfl rfl rfl rfl ?_
  obtain ⟨t1, ph2, h0, h⟩ := xb_some h
  refine px_cS1 rfl rfl rfl rfl rfl rfl rfl (r_Scribe_nextPlace h0 :) (fun _ _ q => nomatch q.2) (fun r ph' q => ?_)
  obtain ⟨rfl, q⟩ := q
  cases q
  refine px_alu rfl rfl rfl ?_
  refine px_ld rfl rfl rfl rfl rfl ?_
  refine px_alu rfl rfl rfl ?_
  refine px_ic (k := 0) rfl rfl rfl ?_
  refine px_ic (k := 0) rfl rfl rfl ?_
  obtain ⟨fs, h0, h⟩ := xs_some h
  have e1 := xo_some h0
  obtain ⟨u0, ph3, h0, h⟩ := xb_some h
  refine px_cV6 rfl rfl e1 rfl rfl rfl rfl rfl rfl rfl (r_Scribe_putRow h0 :) (fun _ _ q => nomatch q.2) (fun r ph' q => ?_)
  obtain ⟨rfl, q⟩ := q
  cases q
  refine px_ld rfl rfl rfl rfl rfl ?_
  refine px_alu rfl rfl rfl ?_
  refine px_ic (k := 0) rfl rfl rfl ?_
  obtain ⟨fs, h0, h⟩ := xs_some h
  have e1 := xo_some h0
  obtain ⟨u0, ph4, h0, h⟩ := xb_some h
  refine px_cV2 rfl rfl e1 rfl rfl rfl rfl rfl rfl rfl (r_Scribe_endRow h0 :) (fun _ _ q => nomatch q.2) (fun r ph' q => ?_)
  obtain ⟨rfl, q⟩ := q
  cases q
  refine px_ld rfl rfl rfl rfl rfl ?_
  refine px_ic (k := 1) rfl rfl rfl ?_
  refine px_alu rfl rfl rfl ?_
  obtain ⟨fs, h0, h⟩ := xs_some h
  have e1 := xo_some h0
  obtain ⟨u0, ph5, h0, h⟩ := xb_some h
  refine px_cV2 rfl rfl e1 rfl rfl rfl rfl rfl rfl rfl (r_Row_put h0 :) (fun _ _ q => nomatch q.2) (fun r ph' q => ?_)
  obtain ⟨rfl, q⟩ := q
  cases q
  refine px_ic (k := 0) rfl rfl rfl ?_
  refine px_st (lv' := [_, _, _, _]) rfl rfl rfl rfl rfl rfl rfl ?_
  refine px_forget (n := 2) (lv' := [_, _, _, _]) rfl ?_
  exact (r_Scribe_mergeNames_85 _ h :)
def f_Scribe_mergeNames_46 (F : Nat) (c : px_CT) (k4 : Nat → Nat → Int32 → Int32 → px_H → Option (Unit × px_H)) (a0 : Nat) (a1 : Nat) (a3 : Int32) (s0 : Int32) (s1 : Int32) (ph : px_H) : Option (Unit × px_H) :=
  k4 a0 a1 (s0 + s1) (a3 + nI 1) ph
theorem r_Scribe_mergeNames_46 {l : Launch} {g : px_G} {d F : Nat} {k4 : Nat → Nat → Int32 → Int32 → px_H → Option (Unit × px_H)} (hk4 : ∀ {a0 : Nat} {a1 : Nat} {a2 : Int32} {a3 : Int32} {ph : px_H} {r : Unit} {ph' : px_H}, k4 a0 a1 a2 a3 ph = some (r, ph') → PW l g (d + 5) m_Scribe_mergeNames 4 [.ref a0, .ref a1, .int a2, .int a3] [] ph (px_qV r ph')) {a0 : Nat} {a1 : Nat} {a3 : Int32} {s0 : Int32} {s1 : Int32} {ph : px_H} {r : Unit} {ph' : px_H} (h : f_Scribe_mergeNames_46 F (px_ct g) k4 a0 a1 a3 s0 s1 ph = some (r, ph')) : PW l g (d + 5) m_Scribe_mergeNames 46 [.ref a0, .ref a1, px_u, .int a3] [.int s1, .int s0] ph (px_qV r ph') := by
  unfold f_Scribe_mergeNames_46 at h
  refine px_alu rfl rfl rfl ?_
  refine px_st (lv' := [_, _, _, _]) rfl rfl rfl rfl rfl rfl rfl ?_
  refine px_iinc (lv' := [_, _, _, _]) rfl rfl rfl rfl rfl rfl ?_
  refine px_goto rfl (by decide) rfl ?_
  exact (hk4 h :)
def f_Scribe_mergeNames_4 (F : Nat) (c : px_CT) : Nat → Nat → Nat → Int32 → Int32 → px_H → Option (Unit × px_H)
  | 0, _, _, _, _, _ => none
  | n + 1, a0, a1, a2, a3, ph =>
    (xgI ph 11 6 a0).bind fun t1 =>
    if t1 ≤ a3 then
      f_Scribe_mergeNames_54 F c a0 a1 a2 ph
    else
      (xgR ph 11 5 a0).bind fun t2 =>
      (xal ph 5 t2).bind fun t3 =>
      if t3 ≤ a3 then
        f_Scribe_mergeNames_54 F c a0 a1 a2 ph
      else
        (xgR ph 11 5 a0).bind fun t4 =>
        (xaN ph 5 t4 a3).bind fun t5 =>
        (match t5 with
          | none => f_Scribe_mergeNames_46 F c (f_Scribe_mergeNames_4 F c n) a0 a1 a3 a2 (nI 0) ph
          | some p6 => (xgR ph 11 5 a0).bind fun t7 =>
          (xaN ph 5 t7 a3).bind fun t8 =>
          (t8).bind fun p9 =>
          (xgI ph 5 3 p9).bind fun t10 =>
          f_Scribe_mergeNames_46 F c (f_Scribe_mergeNames_4 F c n) a0 a1 a3 a2 (t10 + (nI 1)) ph)
theorem r_Scribe_mergeNames_4 {l : Launch} {g : px_G} {d F : Nat} : ∀ (n : Nat) {a0 : Nat} {a1 : Nat} {a2 : Int32} {a3 : Int32} {ph : px_H} {r : Unit} {ph' : px_H}, f_Scribe_mergeNames_4 F (px_ct g) n a0 a1 a2 a3 ph = some (r, ph') → PW l g (d + 5) m_Scribe_mergeNames 4 [.ref a0, .ref a1, .int a2, .int a3] [] ph (px_qV r ph') := by
  intro n
  induction n with
  | zero => intro _ _ _ _ _ _ _ h; cases h
  | succ n ih =>
    intro a0 a1 a2 a3 ph r ph' h
    unfold f_Scribe_mergeNames_4 at h
    refine px_ld rfl rfl rfl rfl rfl ?_
    refine px_ld rfl rfl rfl rfl rfl ?_
    obtain ⟨t1, h0, h⟩ := xs_some h
    obtain ⟨fs, e1, e2⟩ := xgI_some h0
    refine px_get rfl e1 e2 rfl ?_
    refine px_icge rfl (by decide) rfl (fun hc => ?_) (fun hc => ?_)
    · replace h := (if_pos hc).symm.trans h
      refine px_forget (n := 3) (lv' := [_, _, _, _]) rfl ?_
      exact (r_Scribe_mergeNames_54 h :)
    · replace h := (if_neg hc).symm.trans h
      refine px_ld rfl rfl rfl rfl rfl ?_
      refine px_ld rfl rfl rfl rfl rfl ?_
      obtain ⟨t2, h0, h⟩ := xs_some h
      obtain ⟨fs, e1, e2⟩ := xgR_some h0
      refine px_get rfl e1 e2 rfl ?_
      obtain ⟨t3, h0, h⟩ := xs_some h
      obtain ⟨x, e1, e3⟩ := xal_some h0
      subst e3
      refine px_alen rfl e1 rfl rfl ?_
      refine px_icge rfl (by decide) rfl (fun hc => ?_) (fun hc => ?_)
      · replace h := (if_pos hc).symm.trans h
        refine px_forget (n := 3) (lv' := [_, _, _, _]) rfl ?_
        exact (r_Scribe_mergeNames_54 h :)
      · replace h := (if_neg hc).symm.trans h
        refine px_ld rfl rfl rfl rfl rfl ?_
        refine px_ld rfl rfl rfl rfl rfl ?_
        obtain ⟨t4, h0, h⟩ := xs_some h
        obtain ⟨fs, e1, e2⟩ := xgR_some h0
        refine px_get rfl e1 e2 rfl ?_
        refine px_ld rfl rfl rfl rfl rfl ?_
        obtain ⟨t5, h0, h⟩ := xs_some h
        obtain ⟨N, f, e1, e2, e3⟩ := xaN_some h0
        refine px_aaldO rfl e1 rfl e2 e3 rfl ?_
        cases t5 with
        | none =>
          refine px_ifnnN rfl rfl ?_
          refine px_ic (k := 0) rfl rfl rfl ?_
          refine px_goto rfl (by decide) rfl ?_
          refine px_forget (n := 2) (lv' := [_, _, _, _]) rfl ?_
          exact (r_Scribe_mergeNames_46 @ih h :)
        | some p6 =>
          refine px_ifnnR rfl (by decide) rfl ?_
          refine px_ld rfl rfl rfl rfl rfl ?_
          obtain ⟨t7, h0, h⟩ := xs_some h
          obtain ⟨fs, e1, e2⟩ := xgR_some h0
          refine px_get rfl e1 e2 rfl ?_
          refine px_ld rfl rfl rfl rfl rfl ?_
          obtain ⟨t8, h0, h⟩ := xs_some h
          obtain ⟨N, f, e1, e2, e3⟩ := xaN_some h0
          refine px_aaldO rfl e1 rfl e2 e3 rfl ?_
          obtain ⟨p9, h0, h⟩ := xs_some h
          revert h
          subst h0
          intro h
          obtain ⟨t10, h0, h⟩ := xs_some h
          obtain ⟨fs, e1, e2⟩ := xgI_some h0
          refine px_get rfl e1 e2 rfl ?_
          refine px_ic (k := 1) rfl rfl rfl ?_
          refine px_alu rfl rfl rfl ?_
          refine px_forget (n := 2) (lv' := [_, _, _, _]) rfl ?_
          exact (r_Scribe_mergeNames_46 @ih h :)
def f_Scribe_mergeNames (F : Nat) (c : px_CT) (a0 : Nat) (a1 : Nat) (ph : px_H) : Option (Unit × px_H) :=
  f_Scribe_mergeNames_4 F c F a0 a1 (nI 1) (nI 0) ph
theorem r_Scribe_mergeNames {l : Launch} {g : px_G} {d F : Nat} {a0 : Nat} {a1 : Nat} {ph : px_H} {r : Unit} {ph' : px_H} (h : f_Scribe_mergeNames F (px_ct g) a0 a1 ph = some (r, ph')) : PW l g (d + 5) m_Scribe_mergeNames 0 [.ref a0, .ref a1, px_u, px_u] [] ph (px_qV r ph') := by
  unfold f_Scribe_mergeNames at h
  refine px_ic (k := 1) rfl rfl rfl ?_
  refine px_st (lv' := [_, _, _, _]) rfl rfl rfl rfl rfl rfl rfl ?_
  refine px_ic (k := 0) rfl rfl rfl ?_
  refine px_st (lv' := [_, _, _, _]) rfl rfl rfl rfl rfl rfl rfl ?_
  exact (r_Scribe_mergeNames_4 _ h :)
def f_Scribe_writeMerged_249 (F : Nat) (c : px_CT) (s0 : Int32) (ph : px_H) : Option (Int32 × px_H) :=
  xz s0 ph
theorem r_Scribe_writeMerged_249 {l : Launch} {g : px_G} {d F : Nat} {s0 : Int32} {ph : px_H} {r : Int32} {ph' : px_H} (h : f_Scribe_writeMerged_249 F (px_ct g) s0 ph = some (r, ph')) : PW l g (d + 6) m_Scribe_writeMerged 249 [px_u, px_u, px_u, px_u] [.int s0] ph (px_qI r ph') := by
  unfold f_Scribe_writeMerged_249 at h
  obtain ⟨e0, e1, e2⟩ := xz_some h
  subst e1 e2
  exact px_iret rfl (Or.inr ⟨rfl, e0⟩) rfl ⟨rfl, rfl⟩
def f_Scribe_writeMerged_248 (F : Nat) (c : px_CT) (ph : px_H) : Option (Int32 × px_H) :=
  f_Scribe_writeMerged_249 F c (nI 0) ph
theorem r_Scribe_writeMerged_248 {l : Launch} {g : px_G} {d F : Nat} {ph : px_H} {r : Int32} {ph' : px_H} (h : f_Scribe_writeMerged_248 F (px_ct g) ph = some (r, ph')) : PW l g (d + 6) m_Scribe_writeMerged 248 [px_u, px_u, px_u, px_u] [] ph (px_qI r ph') := by
  unfold f_Scribe_writeMerged_248 at h
  refine px_ic (k := 0) rfl rfl rfl ?_
  exact (r_Scribe_writeMerged_249 h :)
def f_Scribe_writeMerged_143 (F : Nat) (c : px_CT) (a0 : Nat) (a1 : Nat) (a2 : Int32) (ph : px_H) : Option (Int32 × px_H) :=
  (xo ph 10 a1).bind fun _ =>
  xb (f_Row_set F c a1 (nI 16) (nI 2) (lN 1) ph) fun _ ph1 =>
  (xo ph1 10 a1).bind fun _ =>
  xb (f_Row_set F c a1 (nI 18) (nI 2) ((62 : Int64)) ph1) fun _ ph2 =>
  (xo ph2 10 a1).bind fun _ =>
  xb (f_Row_set F c a1 (nI 20) (nI 4) (lN 1) ph2) fun _ ph3 =>
  (xo ph3 10 a1).bind fun _ =>
  xb (f_Row_set F c a1 (nI 40) (nI 8) a2.toInt64 ph3) fun _ ph4 =>
  (xo ph4 10 a1).bind fun _ =>
  xb (f_Row_set F c a1 (nI 52) (nI 2) ((64 : Int64)) ph4) fun _ ph5 =>
  (xo ph5 10 a1).bind fun _ =>
  xb (f_Row_set F c a1 (nI 58) (nI 2) ((64 : Int64)) ph5) fun _ ph6 =>
  (xgI ph6 11 8 a0).bind fun t7 =>
  (xo ph6 10 a1).bind fun _ =>
  xb (f_Row_set F c a1 (nI 60) (nI 2) ((t7 + (nI 2)).toInt64) ph6) fun _ ph8 =>
  (xgI ph8 11 8 a0).bind fun t9 =>
  (xo ph8 10 a1).bind fun _ =>
  xb (f_Row_set F c a1 (nI 62) (nI 2) ((t9 + (nI 1)).toInt64) ph8) fun _ ph10 =>
  (xgI ph10 10 2 a1).bind fun t11 =>
  if t11 = 0 then
    (xgI ph10 10 1 a1).bind fun t12 =>
    if (nI 8192) < t12 then
      f_Scribe_writeMerged_248 F c ph10
    else
      f_Scribe_writeMerged_249 F c (nI 1) ph10
  else
    f_Scribe_writeMerged_248 F c ph10
theorem r_Scribe_writeMerged_143 {l : Launch} {g : px_G} {d F : Nat} {a0 : Nat} {a1 : Nat} {a2 : Int32} {ph : px_H} {r : Int32} {ph' : px_H} (h : f_Scribe_writeMerged_143 F (px_ct g) a0 a1 a2 ph = some (r, ph')) : PW l g (d + 6) m_Scribe_writeMerged 143 [.ref a0, .ref a1, .int a2, px_u] [] ph (px_qI r ph') := by
  unfold f_Scribe_writeMerged_143 at h
  refine px_ld rfl rfl rfl rfl rfl ?_
  refine px_ic (k := 16) rfl rfl rfl ?_
  refine px_ic (k := 2) rfl rfl rfl ?_
  refine px_alu rfl rfl rfl ?_
  obtain ⟨fs, h0, h⟩ := xs_some h
  have e1 := xo_some h0
  obtain ⟨u0, ph1, h0, h⟩ := xb_some h
  refine px_cV3 rfl rfl e1 rfl rfl rfl rfl rfl rfl rfl (r_Row_set h0 :) (fun _ _ q => nomatch q.2) (fun r ph' q => ?_)
  obtain ⟨rfl, q⟩ := q
  cases q
  refine px_ld rfl rfl rfl rfl rfl ?_
  refine px_ic (k := 18) rfl rfl rfl ?_
  refine px_ic (k := 2) rfl rfl rfl ?_
  refine px_ldc2 rfl rfl rfl ?_
  obtain ⟨fs, h0, h⟩ := xs_some h
  have e1 := xo_some h0
  obtain ⟨u0, ph2, h0, h⟩ := xb_some h
  refine px_cV3 rfl rfl e1 rfl rfl rfl rfl rfl rfl rfl (r_Row_set h0 :) (fun _ _ q => nomatch q.2) (fun r ph' q => ?_)
  obtain ⟨rfl, q⟩ := q
  cases q
  refine px_ld rfl rfl rfl rfl rfl ?_
  refine px_ic (k := 20) rfl rfl rfl ?_
  refine px_ic (k := 4) rfl rfl rfl ?_
  refine px_alu rfl rfl rfl ?_
  obtain ⟨fs, h0, h⟩ := xs_some h
  have e1 := xo_some h0
  obtain ⟨u0, ph3, h0, h⟩ := xb_some h
  refine px_cV3 rfl rfl e1 rfl rfl rfl rfl rfl rfl rfl (r_Row_set h0 :) (fun _ _ q => nomatch q.2) (fun r ph' q => ?_)
  obtain ⟨rfl, q⟩ := q
  cases q
  refine px_ld rfl rfl rfl rfl rfl ?_
  refine px_ic (k := 40) rfl rfl rfl ?_
  refine px_ic (k := 8) rfl rfl rfl ?_
  refine px_ld rfl rfl rfl rfl rfl ?_
  refine px_alu rfl rfl rfl ?_
  obtain ⟨fs, h0, h⟩ := xs_some h
  have e1 := xo_some h0
  obtain ⟨u0, ph4, h0, h⟩ := xb_some h
  refine px_cV3 rfl rfl e1 rfl rfl rfl rfl rfl rfl rfl (r_Row_set h0 :) (fun _ _ q => nomatch q.2) (fun r ph' q => ?_)
  obtain ⟨rfl, q⟩ := q
  cases q
  refine px_ld rfl rfl rfl rfl rfl ?_
  refine px_ic (k := 52) rfl rfl rfl ?_
  refine px_ic (k := 2) rfl rfl rfl ?_
  refine px_ldc2 rfl rfl rfl ?_
  obtain ⟨fs, h0, h⟩ := xs_some h
  have e1 := xo_some h0
  obtain ⟨u0, ph5, h0, h⟩ := xb_some h
  refine px_cV3 rfl rfl e1 rfl rfl rfl rfl rfl rfl rfl (r_Row_set h0 :) (fun _ _ q => nomatch q.2) (fun r ph' q => ?_)
  obtain ⟨rfl, q⟩ := q
  cases q
  refine px_ld rfl rfl rfl rfl rfl ?_
  refine px_ic (k := 58) rfl rfl rfl ?_
  refine px_ic (k := 2) rfl rfl rfl ?_
  refine px_ldc2 rfl rfl rfl ?_
  obtain ⟨fs, h0, h⟩ := xs_some h
  have e1 := xo_some h0
  obtain ⟨u0, ph6, h0, h⟩ := xb_some h
  refine px_cV3 rfl rfl e1 rfl rfl rfl rfl rfl rfl rfl (r_Row_set h0 :) (fun _ _ q => nomatch q.2) (fun r ph' q => ?_)
  obtain ⟨rfl, q⟩ := q
  cases q
  refine px_ld rfl rfl rfl rfl rfl ?_
  refine px_ic (k := 60) rfl rfl rfl ?_
  refine px_ic (k := 2) rfl rfl rfl ?_
  refine px_ld rfl rfl rfl rfl rfl ?_
  obtain ⟨t7, h0, h⟩ := xs_some h
  obtain ⟨fs, e1, e2⟩ := xgI_some h0
  refine px_get rfl e1 e2 rfl ?_
  refine px_ic (k := 2) rfl rfl rfl ?_
  refine px_alu rfl rfl rfl ?_
  refine px_alu rfl rfl rfl ?_
  obtain ⟨fs, h0, h⟩ := xs_some h
  have e1 := xo_some h0
  obtain ⟨u0, ph8, h0, h⟩ := xb_some h
  refine px_cV3 rfl rfl e1 rfl rfl rfl rfl rfl rfl rfl (r_Row_set h0 :) (fun _ _ q => nomatch q.2) (fun r ph' q => ?_)
  obtain ⟨rfl, q⟩ := q
  cases q
  refine px_ld rfl rfl rfl rfl rfl ?_
  refine px_ic (k := 62) rfl rfl rfl ?_
  refine px_ic (k := 2) rfl rfl rfl ?_
  refine px_ld rfl rfl rfl rfl rfl ?_
  obtain ⟨t9, h0, h⟩ := xs_some h
  obtain ⟨fs, e1, e2⟩ := xgI_some h0
  refine px_get rfl e1 e2 rfl ?_
  refine px_ic (k := 1) rfl rfl rfl ?_
  refine px_alu rfl rfl rfl ?_
  refine px_alu rfl rfl rfl ?_
  obtain ⟨fs, h0, h⟩ := xs_some h
  have e1 := xo_some h0
  obtain ⟨u0, ph10, h0, h⟩ := xb_some h
  refine px_cV3 rfl rfl e1 rfl rfl rfl rfl rfl rfl rfl (r_Row_set h0 :) (fun _ _ q => nomatch q.2) (fun r ph' q => ?_)
  obtain ⟨rfl, q⟩ := q
  cases q
  refine px_ld rfl rfl rfl rfl rfl ?_
  obtain ⟨t11, h0, h⟩ := xs_some h
  obtain ⟨fs, e1, e2⟩ := xgI_some h0
  refine px_get rfl e1 e2 rfl ?_
  refine px_ifne rfl (by decide) rfl (fun hc => ?_) (fun hc => ?_)
  · replace h := (if_neg hc).symm.trans h
    refine px_forget (n := 0) (lv' := [_, _, _, _]) rfl ?_
    refine px_forget (n := 1) (lv' := [_, _, _, _]) rfl ?_
    refine px_forget (n := 2) (lv' := [_, _, _, _]) rfl ?_
    exact (r_Scribe_writeMerged_248 h :)
  · replace h := (if_pos hc).symm.trans h
    refine px_ld rfl rfl rfl rfl rfl ?_
    obtain ⟨t12, h0, h⟩ := xs_some h
    obtain ⟨fs, e1, e2⟩ := xgI_some h0
    refine px_get rfl e1 e2 rfl ?_
    refine px_ic (k := 8192) rfl rfl rfl ?_
    refine px_icgt rfl (by decide) rfl (fun hc => ?_) (fun hc => ?_)
    · replace h := (if_pos hc).symm.trans h
      refine px_forget (n := 0) (lv' := [_, _, _, _]) rfl ?_
      refine px_forget (n := 1) (lv' := [_, _, _, _]) rfl ?_
      refine px_forget (n := 2) (lv' := [_, _, _, _]) rfl ?_
      exact (r_Scribe_writeMerged_248 h :)
    · replace h := (if_neg hc).symm.trans h
      refine px_ic (k := 1) rfl rfl rfl ?_
      refine px_goto rfl (by decide) rfl ?_
      refine px_forget (n := 0) (lv' := [_, _, _, _]) rfl ?_
      refine px_forget (n := 1) (lv' := [_, _, _, _]) rfl ?_
      refine px_forget (n := 2) (lv' := [_, _, _, _]) rfl ?_
      exact (r_Scribe_writeMerged_249 h :)
def f_Scribe_writeMerged_117 (F : Nat) (c : px_CT) : Nat → Nat → Nat → Int32 → Int32 → px_H → Option (Int32 × px_H)
  | 0, _, _, _, _, _ => none
  | n + 1, a0, a1, a2, a3, ph =>
    (xkl c 3).bind fun t1 =>
    if t1 ≤ a3 then
      f_Scribe_writeMerged_143 F c a0 a1 a2 ph
    else
      (xkB c 3 a3).bind fun t2 =>
      (xo ph 10 a1).bind fun _ =>
      xb (f_Row_set F c a1 a3 (nI 1) t2.toInt64 ph) fun _ ph3 =>
      f_Scribe_writeMerged_117 F c n a0 a1 a2 (a3 + nI 1) ph3
theorem r_Scribe_writeMerged_117 {l : Launch} {g : px_G} {d F : Nat} : ∀ (n : Nat) {a0 : Nat} {a1 : Nat} {a2 : Int32} {a3 : Int32} {ph : px_H} {r : Int32} {ph' : px_H}, f_Scribe_writeMerged_117 F (px_ct g) n a0 a1 a2 a3 ph = some (r, ph') → PW l g (d + 6) m_Scribe_writeMerged 117 [.ref a0, .ref a1, .int a2, .int a3] [] ph (px_qI r ph') := by
  intro n
  induction n with
  | zero => intro _ _ _ _ _ _ _ h; cases h
  | succ n ih =>
    intro a0 a1 a2 a3 ph r ph' h
    unfold f_Scribe_writeMerged_117 at h
    refine px_ld rfl rfl rfl rfl rfl ?_
    refine px_gets rfl rfl ?_
    obtain ⟨t1, h0, h⟩ := xs_some h
    obtain ⟨e0, e3⟩ := xkl_some h0
    subst e3
    refine px_clen rfl e0 rfl ?_
    refine px_icge rfl (by decide) rfl (fun hc => ?_) (fun hc => ?_)
    · replace h := (if_pos hc).symm.trans h
      refine px_forget (n := 3) (lv' := [_, _, _, _]) rfl ?_
      exact (r_Scribe_writeMerged_143 h :)
    · replace h := (if_neg hc).symm.trans h
      refine px_ld rfl rfl rfl rfl rfl ?_
      refine px_ld rfl rfl rfl rfl rfl ?_
      refine px_ic (k := 1) rfl rfl rfl ?_
      refine px_gets rfl rfl ?_
      refine px_ld rfl rfl rfl rfl rfl ?_
      obtain ⟨t2, h0, h⟩ := xs_some h
      obtain ⟨e0, e1, e2, e3⟩ := xkB_some h0
      subst e3
      refine px_cbld rfl e0 e1 e2 rfl ?_
      refine px_alu rfl rfl rfl ?_
      obtain ⟨fs, h0, h⟩ := xs_some h
      have e1 := xo_some h0
      obtain ⟨u0, ph3, h0, h⟩ := xb_some h
      refine px_cV3 rfl rfl e1 rfl rfl rfl rfl rfl rfl rfl (r_Row_set h0 :) (fun _ _ q => nomatch q.2) (fun r ph' q => ?_)
      obtain ⟨rfl, q⟩ := q
      cases q
      refine px_iinc (lv' := [_, _, _, _]) rfl rfl rfl rfl rfl rfl ?_
      refine px_goto rfl (by decide) rfl ?_
      exact (ih h :)
def f_Scribe_writeMerged_81 (F : Nat) (c : px_CT) (a0 : Nat) (a1 : Nat) (ph : px_H) : Option (Int32 × px_H) :=
  (xo ph 11 a0).bind fun _ =>
  xb (f_Scribe_mergeSymbols F c a0 a1 ph) fun _ ph1 =>
  (xo ph1 11 a0).bind fun _ =>
  xb (f_Scribe_mergeNames F c a0 a1 ph1) fun _ ph2 =>
  xb (f_Scribe_nextPlace F c a1 ph2) fun t3 ph4 =>
  (xgR ph4 11 3 a0).bind fun t5 =>
  (xgR ph4 10 0 t5).bind fun t6 =>
  (xgR ph4 11 3 a0).bind fun t7 =>
  (xgI ph4 10 1 t7).bind fun t8 =>
  (xo ph4 10 a1).bind fun _ =>
  xb (f_Row_copy F c a1 t6 (nI 0) t8 ph4) fun _ ph9 =>
  f_Scribe_writeMerged_117 F c F a0 a1 t3 (nI 0) ph9
theorem r_Scribe_writeMerged_81 {l : Launch} {g : px_G} {d F : Nat} {a0 : Nat} {a1 : Nat} {ph : px_H} {r : Int32} {ph' : px_H} (h : f_Scribe_writeMerged_81 F (px_ct g) a0 a1 ph = some (r, ph')) : PW l g (d + 6) m_Scribe_writeMerged 81 [.ref a0, .ref a1, px_u, px_u] [] ph (px_qI r ph') := by
  unfold f_Scribe_writeMerged_81 at h
  refine px_ld rfl rfl rfl rfl rfl ?_
  refine px_ld rfl rfl rfl rfl rfl ?_
  obtain ⟨fs, h0, h⟩ := xs_some h
  have e1 := xo_some h0
  obtain ⟨u0, ph1, h0, h⟩ := xb_some h
  refine px_cV1 rfl rfl e1 rfl rfl rfl rfl rfl rfl rfl (r_Scribe_mergeSymbols h0 :) (fun _ _ q => nomatch q.2) (fun r ph' q => ?_)
  obtain ⟨rfl, q⟩ := q
  cases q
  refine px_ld rfl rfl rfl rfl rfl ?_
  refine px_ld rfl rfl rfl rfl rfl ?_
  obtain ⟨fs, h0, h⟩ := xs_some h
  have e1 := xo_some h0
  obtain ⟨u0, ph2, h0, h⟩ := xb_some h
  refine px_cV1 rfl rfl e1 rfl rfl rfl rfl rfl rfl rfl (r_Scribe_mergeNames h0 :) (fun _ _ q => nomatch q.2) (fun r ph' q => ?_)
  obtain ⟨rfl, q⟩ := q
  cases q
  refine px_ld rfl rfl rfl rfl rfl ?_
  obtain ⟨t3, ph4, h0, h⟩ := xb_some h
  refine px_cS1 rfl rfl rfl rfl rfl rfl rfl (r_Scribe_nextPlace h0 :) (fun _ _ q => nomatch q.2) (fun r ph' q => ?_)
  obtain ⟨rfl, q⟩ := q
  cases q
  refine px_st (lv' := [_, _, _, _]) rfl rfl rfl rfl rfl rfl rfl ?_
  refine px_ld rfl rfl rfl rfl rfl ?_
  refine px_ld rfl rfl rfl rfl rfl ?_
  obtain ⟨t5, h0, h⟩ := xs_some h
  obtain ⟨fs, e1, e2⟩ := xgR_some h0
  refine px_get rfl e1 e2 rfl ?_
  obtain ⟨t6, h0, h⟩ := xs_some h
  obtain ⟨fs, e1, e2⟩ := xgR_some h0
  refine px_get rfl e1 e2 rfl ?_
  refine px_ic (k := 0) rfl rfl rfl ?_
  refine px_ld rfl rfl rfl rfl rfl ?_
  obtain ⟨t7, h0, h⟩ := xs_some h
  obtain ⟨fs, e1, e2⟩ := xgR_some h0
  refine px_get rfl e1 e2 rfl ?_
  obtain ⟨t8, h0, h⟩ := xs_some h
  obtain ⟨fs, e1, e2⟩ := xgI_some h0
  refine px_get rfl e1 e2 rfl ?_
  obtain ⟨fs, h0, h⟩ := xs_some h
  have e1 := xo_some h0
  obtain ⟨u0, ph9, h0, h⟩ := xb_some h
  refine px_cV3 rfl rfl e1 rfl rfl rfl rfl rfl rfl rfl (r_Row_copy h0 :) (fun _ _ q => nomatch q.2) (fun r ph' q => ?_)
  obtain ⟨rfl, q⟩ := q
  cases q
  refine px_ic (k := 0) rfl rfl rfl ?_
  refine px_st (lv' := [_, _, _, _]) rfl rfl rfl rfl rfl rfl rfl ?_
  exact (r_Scribe_writeMerged_117 _ h :)
def f_Scribe_writeMerged_52 (F : Nat) (c : px_CT) : Nat → Nat → Nat → Int32 → px_H → Option (Int32 × px_H)
  | 0, _, _, _, _ => none
  | n + 1, a0, a1, a2, ph =>
    (xgR ph 11 0 a0).bind fun t1 =>
    (xgI ph 3 14 t1).bind fun t2 =>
    if t2 ≤ a2 then
      f_Scribe_writeMerged_81 F c a0 a1 ph
    else
      (xo ph 11 a0).bind fun _ =>
      xb (f_Scribe_mergeParts F c a0 a1 a2 ph) fun _ ph3 =>
      (xo ph3 11 a0).bind fun _ =>
      xb (f_Scribe_mergeSites F c a0 a1 a2 ph3) fun _ ph4 =>
      f_Scribe_writeMerged_52 F c n a0 a1 (a2 + nI 1) ph4
theorem r_Scribe_writeMerged_52 {l : Launch} {g : px_G} {d F : Nat} : ∀ (n : Nat) {a0 : Nat} {a1 : Nat} {a2 : Int32} {ph : px_H} {r : Int32} {ph' : px_H}, f_Scribe_writeMerged_52 F (px_ct g) n a0 a1 a2 ph = some (r, ph') → PW l g (d + 6) m_Scribe_writeMerged 52 [.ref a0, .ref a1, .int a2, px_u] [] ph (px_qI r ph') := by
  intro n
  induction n with
  | zero => intro _ _ _ _ _ _ h; cases h
  | succ n ih =>
    intro a0 a1 a2 ph r ph' h
    unfold f_Scribe_writeMerged_52 at h
    refine px_ld rfl rfl rfl rfl rfl ?_
    refine px_ld rfl rfl rfl rfl rfl ?_
    obtain ⟨t1, h0, h⟩ := xs_some h
    obtain ⟨fs, e1, e2⟩ := xgR_some h0
    refine px_get rfl e1 e2 rfl ?_
    obtain ⟨t2, h0, h⟩ := xs_some h
    obtain ⟨fs, e1, e2⟩ := xgI_some h0
    refine px_get rfl e1 e2 rfl ?_
    refine px_icge rfl (by decide) rfl (fun hc => ?_) (fun hc => ?_)
    · replace h := (if_pos hc).symm.trans h
      refine px_forget (n := 2) (lv' := [_, _, _, _]) rfl ?_
      exact (r_Scribe_writeMerged_81 h :)
    · replace h := (if_neg hc).symm.trans h
      refine px_ld rfl rfl rfl rfl rfl ?_
      refine px_ld rfl rfl rfl rfl rfl ?_
      refine px_ld rfl rfl rfl rfl rfl ?_
      obtain ⟨fs, h0, h⟩ := xs_some h
      have e1 := xo_some h0
      obtain ⟨u0, ph3, h0, h⟩ := xb_some h
      refine px_cV2 rfl rfl e1 rfl rfl rfl rfl rfl rfl rfl (r_Scribe_mergeParts h0 :) (fun _ _ q => nomatch q.2) (fun r ph' q => ?_)
      obtain ⟨rfl, q⟩ := q
      cases q
      refine px_ld rfl rfl rfl rfl rfl ?_
      refine px_ld rfl rfl rfl rfl rfl ?_
      refine px_ld rfl rfl rfl rfl rfl ?_
      obtain ⟨fs, h0, h⟩ := xs_some h
      have e1 := xo_some h0
      obtain ⟨u0, ph4, h0, h⟩ := xb_some h
      refine px_cV2 rfl rfl e1 rfl rfl rfl rfl rfl rfl rfl (r_Scribe_mergeSites h0 :) (fun _ _ q => nomatch q.2) (fun r ph' q => ?_)
      obtain ⟨rfl, q⟩ := q
      cases q
      refine px_iinc (lv' := [_, _, _, _]) rfl rfl rfl rfl rfl rfl ?_
      refine px_goto rfl (by decide) rfl ?_
      exact (ih h :)
def f_Scribe_writeMerged_18 (F : Nat) (c : px_CT) (ph : px_H) : Option (Int32 × px_H) :=
  some (nI 0, ph)
theorem r_Scribe_writeMerged_18 {l : Launch} {g : px_G} {d F : Nat} {ph : px_H} {r : Int32} {ph' : px_H} (h : f_Scribe_writeMerged_18 F (px_ct g) ph = some (r, ph')) : PW l g (d + 6) m_Scribe_writeMerged 18 [px_u, px_u, px_u, px_u] [] ph (px_qI r ph') := by
  unfold f_Scribe_writeMerged_18 at h
  refine px_ic (k := 0) rfl rfl rfl ?_
  cases h
  exact px_iret rfl (Or.inr ⟨rfl, Or.inl rfl⟩) rfl ⟨rfl, rfl⟩
def f_Scribe_writeMerged (F : Nat) (c : px_CT) (a0 : Nat) (a1 : Nat) (ph : px_H) : Option (Int32 × px_H) :=
  (xo ph 11 a0).bind fun _ =>
  xb (f_Scribe_numberParts F c a0 ph) fun t1 ph2 =>
  if (nI 24) < t1 then
    f_Scribe_writeMerged_18 F c ph2
  else
    (xo ph2 11 a0).bind fun _ =>
    xb (f_Scribe_numberSymbols F c a0 ph2) fun t3 ph4 =>
    if t3 ≤ (nI 64) then
      (xo ph4 10 a1).bind fun _ =>
      xb (f_Row_clear F c a1 ph4) fun _ ph5 =>
      (xo ph5 10 a1).bind fun _ =>
      xb (f_Row_fillTo F c a1 ((64 : Int64)) (nI 0) ph5) fun _ ph6 =>
      (xgR ph6 11 3 a0).bind fun t7 =>
      (xo ph6 10 t7).bind fun _ =>
      xb (f_Row_clear F c t7 ph6) fun _ ph8 =>
      (xgR ph8 11 3 a0).bind fun t9 =>
      (xo ph8 10 t9).bind fun _ =>
      xb (f_Row_fillTo F c t9 ((64 : Int64)) (nI 0) ph8) fun _ ph10 =>
      f_Scribe_writeMerged_52 F c F a0 a1 (nI 0) ph10
    else
      f_Scribe_writeMerged_18 F c ph4
theorem r_Scribe_writeMerged {l : Launch} {g : px_G} {d F : Nat} {a0 : Nat} {a1 : Nat} {ph : px_H} {r : Int32} {ph' : px_H} (h : f_Scribe_writeMerged F (px_ct g) a0 a1 ph = some (r, ph')) : PW l g (d + 6) m_Scribe_writeMerged 0 [.ref a0, .ref a1, px_u, px_u] [] ph (px_qI r ph') := by
  unfold f_Scribe_writeMerged at h
  refine px_ld rfl rfl rfl rfl rfl ?_
  obtain ⟨fs, h0, h⟩ := xs_some h
  have e1 := xo_some h0
  obtain ⟨t1, ph2, h0, h⟩ := xb_some h
  refine px_cV0 rfl rfl e1 rfl rfl rfl rfl rfl rfl rfl (r_Scribe_numberParts h0 :) (fun _ _ q => nomatch q.2) (fun r ph' q => ?_)
  obtain ⟨rfl, q⟩ := q
  cases q
  refine px_ic (k := 24) rfl rfl rfl ?_
  refine px_icgt rfl (by decide) rfl (fun hc => ?_) (fun hc => ?_)
  · replace h := (if_pos hc).symm.trans h
    refine px_forget (n := 0) (lv' := [_, _, _, _]) rfl ?_
    refine px_forget (n := 1) (lv' := [_, _, _, _]) rfl ?_
    exact (r_Scribe_writeMerged_18 h :)
  · replace h := (if_neg hc).symm.trans h
    refine px_ld rfl rfl rfl rfl rfl ?_
    obtain ⟨fs, h0, h⟩ := xs_some h
    have e1 := xo_some h0
    obtain ⟨t3, ph4, h0, h⟩ := xb_some h
    refine px_cV0 rfl rfl e1 rfl rfl rfl rfl rfl rfl rfl (r_Scribe_numberSymbols h0 :) (fun _ _ q => nomatch q.2) (fun r ph' q => ?_)
    obtain ⟨rfl, q⟩ := q
    cases q
    refine px_ic (k := 64) rfl rfl rfl ?_
    refine px_icle rfl (by decide) rfl (fun hc => ?_) (fun hc => ?_)
    · replace h := (if_pos hc).symm.trans h
      refine px_ld rfl rfl rfl rfl rfl ?_
      obtain ⟨fs, h0, h⟩ := xs_some h
      have e1 := xo_some h0
      obtain ⟨u0, ph5, h0, h⟩ := xb_some h
      refine px_cV0 rfl rfl e1 rfl rfl rfl rfl rfl rfl rfl (r_Row_clear h0 :) (fun _ _ q => nomatch q.2) (fun r ph' q => ?_)
      obtain ⟨rfl, q⟩ := q
      cases q
      refine px_ld rfl rfl rfl rfl rfl ?_
      refine px_ldc2 rfl rfl rfl ?_
      refine px_ic (k := 0) rfl rfl rfl ?_
      obtain ⟨fs, h0, h⟩ := xs_some h
      have e1 := xo_some h0
      obtain ⟨u0, ph6, h0, h⟩ := xb_some h
      refine px_cV2 rfl rfl e1 rfl rfl rfl rfl rfl rfl rfl (r_Row_fillTo h0 :) (fun _ _ q => nomatch q.2) (fun r ph' q => ?_)
      obtain ⟨rfl, q⟩ := q
      cases q
      refine px_ld rfl rfl rfl rfl rfl ?_
      obtain ⟨t7, h0, h⟩ := xs_some h
      obtain ⟨fs, e1, e2⟩ := xgR_some h0
      refine px_get rfl e1 e2 rfl ?_
      obtain ⟨fs, h0, h⟩ := xs_some h
      have e1 := xo_some h0
      obtain ⟨u0, ph8, h0, h⟩ := xb_some h
      refine px_cV0 rfl rfl e1 rfl rfl rfl rfl rfl rfl rfl (r_Row_clear h0 :) (fun _ _ q => nomatch q.2) (fun r ph' q => ?_)
      obtain ⟨rfl, q⟩ := q
      cases q
      refine px_ld rfl rfl rfl rfl rfl ?_
      obtain ⟨t9, h0, h⟩ := xs_some h
      obtain ⟨fs, e1, e2⟩ := xgR_some h0
      refine px_get rfl e1 e2 rfl ?_
      refine px_ldc2 rfl rfl rfl ?_
      refine px_ic (k := 0) rfl rfl rfl ?_
      obtain ⟨fs, h0, h⟩ := xs_some h
      have e1 := xo_some h0
      obtain ⟨u0, ph10, h0, h⟩ := xb_some h
      refine px_cV2 rfl rfl e1 rfl rfl rfl rfl rfl rfl rfl (r_Row_fillTo h0 :) (fun _ _ q => nomatch q.2) (fun r ph' q => ?_)
      obtain ⟨rfl, q⟩ := q
      cases q
      refine px_ic (k := 0) rfl rfl rfl ?_
      refine px_st (lv' := [_, _, _, _]) rfl rfl rfl rfl rfl rfl rfl ?_
      exact (r_Scribe_writeMerged_52 _ h :)
    · replace h := (if_neg hc).symm.trans h
      refine px_forget (n := 0) (lv' := [_, _, _, _]) rfl ?_
      refine px_forget (n := 1) (lv' := [_, _, _, _]) rfl ?_
      exact (r_Scribe_writeMerged_18 h :)
def f_H_publishDraft (F : Nat) (c : px_CT) (a0 : Nat) (ph : px_H) : Option (Int32 × px_H) :=
  (xgR ph 0 1 a0).bind fun t1 =>
  (xgR ph 0 2 a0).bind fun t2 =>
  (xpR ph 0 1 a0 t2).bind fun ph3 =>
  (xpR ph3 0 2 a0 t1).bind fun ph4 =>
  (xgR ph4 0 1 a0).bind fun t5 =>
  (xgI ph4 10 1 t5).bind fun t6 =>
  some (t6, ph4)
theorem r_H_publishDraft {l : Launch} {g : px_G} {d F : Nat} {a0 : Nat} {ph : px_H} {r : Int32} {ph' : px_H} (h : f_H_publishDraft F (px_ct g) a0 ph = some (r, ph')) : PW l g (d + 0) m_H_publishDraft 0 [.ref a0, px_u] [] ph (px_qI r ph') := by
  unfold f_H_publishDraft at h
  refine px_ld rfl rfl rfl rfl rfl ?_
  obtain ⟨t1, h0, h⟩ := xs_some h
  obtain ⟨fs, e1, e2⟩ := xgR_some h0
  refine px_get rfl e1 e2 rfl ?_
  refine px_st (lv' := [_, _]) rfl rfl rfl rfl rfl rfl rfl ?_
  refine px_ld rfl rfl rfl rfl rfl ?_
  refine px_ld rfl rfl rfl rfl rfl ?_
  obtain ⟨t2, h0, h⟩ := xs_some h
  obtain ⟨fs, e1, e2⟩ := xgR_some h0
  refine px_get rfl e1 e2 rfl ?_
  obtain ⟨ph3, h0, h⟩ := xs_some h
  obtain ⟨fs, e1, e2, e3⟩ := xpR_some h0
  subst e3
  refine px_put rfl e1 e2 trivial rfl ?_
  refine px_ld rfl rfl rfl rfl rfl ?_
  refine px_ld rfl rfl rfl rfl rfl ?_
  obtain ⟨ph4, h0, h⟩ := xs_some h
  obtain ⟨fs, e1, e2, e3⟩ := xpR_some h0
  subst e3
  refine px_put rfl e1 e2 trivial rfl ?_
  refine px_ld rfl rfl rfl rfl rfl ?_
  obtain ⟨t5, h0, h⟩ := xs_some h
  obtain ⟨fs, e1, e2⟩ := xgR_some h0
  refine px_get rfl e1 e2 rfl ?_
  obtain ⟨t6, h0, h⟩ := xs_some h
  obtain ⟨fs, e1, e2⟩ := xgI_some h0
  refine px_get rfl e1 e2 rfl ?_
  cases h
  exact px_iret rfl (Or.inl rfl) rfl ⟨rfl, rfl⟩
def f_H_merge (F : Nat) (c : px_CT) (a0 : Nat) (ph : px_H) : Option (Int32 × px_H) :=
  (xo ph 0 a0).bind fun _ =>
  xb (f_H_runLink F c a0 (nI 0) ph) fun t1 ph2 =>
  if t1 = (nI 1) then
    some (t1, ph2)
  else
    (xgR ph2 0 15 a0).bind fun t3 =>
    (xgR ph2 0 2 a0).bind fun t4 =>
    (xo ph2 11 t3).bind fun _ =>
    xb (f_Scribe_writeMerged F c t3 t4 ph2) fun t5 ph6 =>
    if t5 = 0 then
      some (Int32.ofInt (-1), ph6)
    else
      (xo ph6 0 a0).bind fun _ =>
      xb (f_H_publishDraft F c a0 ph6) fun t7 ph8 =>
      some (t1, ph8)
theorem r_H_merge {l : Launch} {g : px_G} {d F : Nat} {a0 : Nat} {ph : px_H} {r : Int32} {ph' : px_H} (h : f_H_merge F (px_ct g) a0 ph = some (r, ph')) : PW l g (d + 9) m_H_merge 0 [.ref a0, px_u] [] ph (px_qI r ph') := by
  unfold f_H_merge at h
  refine px_ld rfl rfl rfl rfl rfl ?_
  refine px_ic (k := 0) rfl rfl rfl ?_
  obtain ⟨fs, h0, h⟩ := xs_some h
  have e1 := xo_some h0
  obtain ⟨t1, ph2, h0, h⟩ := xb_some h
  refine px_cV1 rfl rfl e1 rfl rfl rfl rfl rfl rfl rfl (r_H_runLink h0 :) (fun _ _ q => nomatch q.2) (fun r ph' q => ?_)
  obtain ⟨rfl, q⟩ := q
  cases q
  refine px_st (lv' := [_, _]) rfl rfl rfl rfl rfl rfl rfl ?_
  refine px_ld rfl rfl rfl rfl rfl ?_
  refine px_ic (k := 1) rfl rfl rfl ?_
  refine px_icne rfl rfl rfl (fun hc => ?_) (fun hc => ?_)
  · replace h := (if_neg hc).symm.trans h
    refine px_ld rfl rfl rfl rfl rfl ?_
    obtain ⟨t3, h0, h⟩ := xs_some h
    obtain ⟨fs, e1, e2⟩ := xgR_some h0
    refine px_get rfl e1 e2 rfl ?_
    refine px_ld rfl rfl rfl rfl rfl ?_
    obtain ⟨t4, h0, h⟩ := xs_some h
    obtain ⟨fs, e1, e2⟩ := xgR_some h0
    refine px_get rfl e1 e2 rfl ?_
    obtain ⟨fs, h0, h⟩ := xs_some h
    have e1 := xo_some h0
    obtain ⟨t5, ph6, h0, h⟩ := xb_some h
    refine px_cV1 rfl rfl e1 rfl rfl rfl rfl rfl rfl rfl (r_Scribe_writeMerged h0 :) (fun _ _ q => nomatch q.2) (fun r ph' q => ?_)
    obtain ⟨rfl, q⟩ := q
    cases q
    refine px_ifne rfl rfl rfl (fun hc => ?_) (fun hc => ?_)
    · replace h := (if_neg hc).symm.trans h
      refine px_ld rfl rfl rfl rfl rfl ?_
      obtain ⟨fs, h0, h⟩ := xs_some h
      have e1 := xo_some h0
      obtain ⟨t7, ph8, h0, h⟩ := xb_some h
      refine px_cV0 rfl rfl e1 rfl rfl rfl rfl rfl rfl rfl (r_H_publishDraft h0 :) (fun _ _ q => nomatch q.2) (fun r ph' q => ?_)
      obtain ⟨rfl, q⟩ := q
      cases q
      refine px_alu rfl rfl rfl ?_
      refine px_ld rfl rfl rfl rfl rfl ?_
      cases h
      exact px_iret rfl (Or.inl rfl) rfl ⟨rfl, rfl⟩
    · replace h := (if_pos hc).symm.trans h
      refine px_alu rfl rfl rfl ?_
      cases h
      exact px_iret rfl (Or.inl rfl) rfl ⟨rfl, rfl⟩
  · replace h := (if_pos hc).symm.trans h
    refine px_ld rfl rfl rfl rfl rfl ?_
    cases h
    exact px_iret rfl (Or.inl rfl) rfl ⟨rfl, rfl⟩
def f_H_forget (F : Nat) (c : px_CT) (a0 : Nat) (ph : px_H) : Option (Unit × px_H) :=
  (xgR ph 0 8 a0).bind fun t1 =>
  (xpI ph 6 2 t1 (nI 0)).bind fun ph2 =>
  (xgR ph2 0 9 a0).bind fun t3 =>
  (xpI ph2 6 2 t3 (nI 0)).bind fun ph4 =>
  some ((), ph4)
theorem r_H_forget {l : Launch} {g : px_G} {d F : Nat} {a0 : Nat} {ph : px_H} {r : Unit} {ph' : px_H} (h : f_H_forget F (px_ct g) a0 ph = some (r, ph')) : PW l g (d + 0) m_H_forget 0 [.ref a0] [] ph (px_qV r ph') := by
  unfold f_H_forget at h
  refine px_ld rfl rfl rfl rfl rfl ?_
  obtain ⟨t1, h0, h⟩ := xs_some h
  obtain ⟨fs, e1, e2⟩ := xgR_some h0
  refine px_get rfl e1 e2 rfl ?_
  refine px_ic (k := 0) rfl rfl rfl ?_
  obtain ⟨ph2, h0, h⟩ := xs_some h
  obtain ⟨fs, e1, e2, e3⟩ := xpI_some h0
  subst e3
  refine px_put rfl e1 e2 trivial rfl ?_
  refine px_ld rfl rfl rfl rfl rfl ?_
  obtain ⟨t3, h0, h⟩ := xs_some h
  obtain ⟨fs, e1, e2⟩ := xgR_some h0
  refine px_get rfl e1 e2 rfl ?_
  refine px_ic (k := 0) rfl rfl rfl ?_
  obtain ⟨ph4, h0, h⟩ := xs_some h
  obtain ⟨fs, e1, e2, e3⟩ := xpI_some h0
  subst e3
  refine px_put rfl e1 e2 trivial rfl ?_
  cases h
  exact px_vret rfl rfl rfl ⟨rfl, rfl⟩
def f_Scribe_isObject_21 (F : Nat) (c : px_CT) (s0 : Int32) (ph : px_H) : Option (Int32 × px_H) :=
  xz s0 ph
theorem r_Scribe_isObject_21 {l : Launch} {g : px_G} {d F : Nat} {s0 : Int32} {ph : px_H} {r : Int32} {ph' : px_H} (h : f_Scribe_isObject_21 F (px_ct g) s0 ph = some (r, ph')) : PW l g (d + 0) m_Scribe_isObject 21 [px_u] [.int s0] ph (px_qI r ph') := by
  unfold f_Scribe_isObject_21 at h
  obtain ⟨e0, e1, e2⟩ := xz_some h
  subst e1 e2
  exact px_iret rfl (Or.inr ⟨rfl, e0⟩) rfl ⟨rfl, rfl⟩
def f_Scribe_isObject_16 (F : Nat) (c : px_CT) (ph : px_H) : Option (Int32 × px_H) :=
  f_Scribe_isObject_21 F c (nI 1) ph
theorem r_Scribe_isObject_16 {l : Launch} {g : px_G} {d F : Nat} {ph : px_H} {r : Int32} {ph' : px_H} (h : f_Scribe_isObject_16 F (px_ct g) ph = some (r, ph')) : PW l g (d + 0) m_Scribe_isObject 16 [px_u] [] ph (px_qI r ph') := by
  unfold f_Scribe_isObject_16 at h
  refine px_ic (k := 1) rfl rfl rfl ?_
  refine px_goto rfl rfl rfl ?_
  exact (r_Scribe_isObject_21 h :)
def f_Scribe_isObject (F : Nat) (c : px_CT) (a0 : Option Nat) (ph : px_H) : Option (Int32 × px_H) :=
  (a0).bind fun p1 =>
  (xgI ph 7 4 p1).bind fun t2 =>
  if t2 = (nI 1) then
    f_Scribe_isObject_16 F c ph
  else
    (xgI ph 7 4 p1).bind fun t3 =>
    if t3 = (nI 2) then
      f_Scribe_isObject_16 F c ph
    else
      f_Scribe_isObject_21 F c (nI 0) ph
theorem r_Scribe_isObject {l : Launch} {g : px_G} {d F : Nat} {a0 : Option Nat} {ph : px_H} {r : Int32} {ph' : px_H} (h : f_Scribe_isObject F (px_ct g) a0 ph = some (r, ph')) : PW l g (d + 0) m_Scribe_isObject 0 [va_rf a0] [] ph (px_qI r ph') := by
  unfold f_Scribe_isObject at h
  refine px_ld rfl rfl rfl (by first | rfl | (cases a0 <;> rfl)) rfl ?_
  obtain ⟨p1, h0, h⟩ := xs_some h
  revert h
  subst h0
  intro h
  obtain ⟨t2, h0, h⟩ := xs_some h
  obtain ⟨fs, e1, e2⟩ := xgI_some h0
  refine px_get rfl e1 e2 rfl ?_
  refine px_ic (k := 1) rfl rfl rfl ?_
  refine px_iceq rfl rfl rfl (fun hc => ?_) (fun hc => ?_)
  · replace h := (if_pos hc).symm.trans h
    refine px_forget (n := 0) (lv' := [_]) rfl ?_
    exact (r_Scribe_isObject_16 h :)
  · replace h := (if_neg hc).symm.trans h
    refine px_ld rfl rfl rfl rfl rfl ?_
    obtain ⟨t3, h0, h⟩ := xs_some h
    obtain ⟨fs, e1, e2⟩ := xgI_some h0
    refine px_get rfl e1 e2 rfl ?_
    refine px_ic (k := 2) rfl rfl rfl ?_
    refine px_icne rfl rfl rfl (fun hc => ?_) (fun hc => ?_)
    · replace h := (if_neg hc).symm.trans h
      refine px_ic (k := 0) rfl rfl rfl ?_
      refine px_forget (n := 0) (lv' := [_]) rfl ?_
      exact (r_Scribe_isObject_21 h :)
    · replace h := (if_pos hc).symm.trans h
      refine px_forget (n := 0) (lv' := [_]) rfl ?_
      exact (r_Scribe_isObject_16 h :)
def f_Row_putDecimal_40 (F : Nat) (c : px_CT) (ph : px_H) : Option (Unit × px_H) :=
  some ((), ph)
theorem r_Row_putDecimal_40 {l : Launch} {g : px_G} {d F : Nat} {ph : px_H} {r : Unit} {ph' : px_H} (h : f_Row_putDecimal_40 F (px_ct g) ph = some (r, ph')) : PW l g (d + 1) m_Row_putDecimal 40 [px_u, px_u, px_u] [] ph (px_qV r ph') := by
  unfold f_Row_putDecimal_40 at h
  cases h
  exact px_vret rfl rfl rfl ⟨rfl, rfl⟩
def f_Row_putDecimal_32 (F : Nat) (c : px_CT) (k3 : Nat → Int32 → Int32 → px_H → Option (Unit × px_H)) (a0 : Nat) (a1 : Int32) (a2 : Int32) (ph : px_H) : Option (Unit × px_H) :=
  k3 a0 a1 (a2 / (nI 10)) ph
theorem r_Row_putDecimal_32 {l : Launch} {g : px_G} {d F : Nat} {k3 : Nat → Int32 → Int32 → px_H → Option (Unit × px_H)} (hk3 : ∀ {a0 : Nat} {a1 : Int32} {a2 : Int32} {ph : px_H} {r : Unit} {ph' : px_H}, k3 a0 a1 a2 ph = some (r, ph') → PW l g (d + 1) m_Row_putDecimal 3 [.ref a0, .int a1, .int a2] [] ph (px_qV r ph')) {a0 : Nat} {a1 : Int32} {a2 : Int32} {ph : px_H} {r : Unit} {ph' : px_H} (h : f_Row_putDecimal_32 F (px_ct g) k3 a0 a1 a2 ph = some (r, ph')) : PW l g (d + 1) m_Row_putDecimal 32 [.ref a0, .int a1, .int a2] [] ph (px_qV r ph') := by
  unfold f_Row_putDecimal_32 at h
  refine px_ld rfl rfl rfl rfl rfl ?_
  refine px_ic (k := 10) rfl rfl rfl ?_
  refine px_idiv rfl (by decide) rfl ?_
  refine px_st (lv' := [_, _, _]) rfl rfl rfl rfl rfl rfl rfl ?_
  refine px_goto rfl rfl rfl ?_
  exact (hk3 h :)
def f_Row_putDecimal_17 (F : Nat) (c : px_CT) (k3 : Nat → Int32 → Int32 → px_H → Option (Unit × px_H)) (a0 : Nat) (a1 : Int32) (a2 : Int32) (ph : px_H) : Option (Unit × px_H) :=
  (xnzI a2).bind fun _ =>
  (xo ph 10 a0).bind fun _ =>
  xb (f_Row_put F c a0 (nI 1) (((nI 48) + ((a1 / a2) - (a1 / a2) / (nI 10) * (nI 10))).toInt64) ph) fun _ ph1 =>
  f_Row_putDecimal_32 F c k3 a0 a1 a2 ph1
theorem r_Row_putDecimal_17 {l : Launch} {g : px_G} {d F : Nat} {k3 : Nat → Int32 → Int32 → px_H → Option (Unit × px_H)} (hk3 : ∀ {a0 : Nat} {a1 : Int32} {a2 : Int32} {ph : px_H} {r : Unit} {ph' : px_H}, k3 a0 a1 a2 ph = some (r, ph') → PW l g (d + 1) m_Row_putDecimal 3 [.ref a0, .int a1, .int a2] [] ph (px_qV r ph')) {a0 : Nat} {a1 : Int32} {a2 : Int32} {ph : px_H} {r : Unit} {ph' : px_H} (h : f_Row_putDecimal_17 F (px_ct g) k3 a0 a1 a2 ph = some (r, ph')) : PW l g (d + 1) m_Row_putDecimal 17 [.ref a0, .int a1, .int a2] [] ph (px_qV r ph') := by
  unfold f_Row_putDecimal_17 at h
  refine px_ld rfl rfl rfl rfl rfl ?_
  refine px_ic (k := 1) rfl rfl rfl ?_
  refine px_ic (k := 48) rfl rfl rfl ?_
  refine px_ld rfl rfl rfl rfl rfl ?_
  refine px_ld rfl rfl rfl rfl rfl ?_
  obtain ⟨_, h0, h⟩ := xs_some h
  have hz := xnzI_some h0
  refine px_idiv rfl hz rfl ?_
  refine px_ic (k := 10) rfl rfl rfl ?_
  refine px_irem rfl (by decide) rfl ?_
  refine px_alu rfl rfl rfl ?_
  refine px_alu rfl rfl rfl ?_
  obtain ⟨fs, h0, h⟩ := xs_some h
  have e1 := xo_some h0
  obtain ⟨u0, ph1, h0, h⟩ := xb_some h
  refine px_cV2 rfl rfl e1 rfl rfl rfl rfl rfl rfl rfl (r_Row_put h0 :) (fun _ _ q => nomatch q.2) (fun r ph' q => ?_)
  obtain ⟨rfl, q⟩ := q
  cases q
  exact (r_Row_putDecimal_32 @hk3 h :)
def f_Row_putDecimal_3 (F : Nat) (c : px_CT) : Nat → Nat → Int32 → Int32 → px_H → Option (Unit × px_H)
  | 0, _, _, _, _ => none
  | n + 1, a0, a1, a2, ph =>
    if a2 ≤ 0 then
      f_Row_putDecimal_40 F c ph
    else
      if a2 ≤ a1 then
        f_Row_putDecimal_17 F c (f_Row_putDecimal_3 F c n) a0 a1 a2 ph
      else
        if a2 = (nI 1) then
          f_Row_putDecimal_17 F c (f_Row_putDecimal_3 F c n) a0 a1 a2 ph
        else
          f_Row_putDecimal_32 F c (f_Row_putDecimal_3 F c n) a0 a1 a2 ph
theorem r_Row_putDecimal_3 {l : Launch} {g : px_G} {d F : Nat} : ∀ (n : Nat) {a0 : Nat} {a1 : Int32} {a2 : Int32} {ph : px_H} {r : Unit} {ph' : px_H}, f_Row_putDecimal_3 F (px_ct g) n a0 a1 a2 ph = some (r, ph') → PW l g (d + 1) m_Row_putDecimal 3 [.ref a0, .int a1, .int a2] [] ph (px_qV r ph') := by
  intro n
  induction n with
  | zero => intro _ _ _ _ _ _ h; cases h
  | succ n ih =>
    intro a0 a1 a2 ph r ph' h
    unfold f_Row_putDecimal_3 at h
    refine px_ld rfl rfl rfl rfl rfl ?_
    refine px_ifle rfl rfl rfl (fun hc => ?_) (fun hc => ?_)
    · replace h := (if_pos hc).symm.trans h
      refine px_forget (n := 0) (lv' := [_, _, _]) rfl ?_
      refine px_forget (n := 1) (lv' := [_, _, _]) rfl ?_
      refine px_forget (n := 2) (lv' := [_, _, _]) rfl ?_
      exact (r_Row_putDecimal_40 h :)
    · replace h := (if_neg hc).symm.trans h
      refine px_ld rfl rfl rfl rfl rfl ?_
      refine px_ld rfl rfl rfl rfl rfl ?_
      refine px_icge rfl rfl rfl (fun hc => ?_) (fun hc => ?_)
      · replace h := (if_pos hc).symm.trans h
        exact (r_Row_putDecimal_17 @ih h :)
      · replace h := (if_neg hc).symm.trans h
        refine px_ld rfl rfl rfl rfl rfl ?_
        refine px_ic (k := 1) rfl rfl rfl ?_
        refine px_icne rfl rfl rfl (fun hc => ?_) (fun hc => ?_)
        · replace h := (if_neg hc).symm.trans h
          exact (r_Row_putDecimal_32 @ih h :)
        · replace h := (if_pos hc).symm.trans h
          exact (r_Row_putDecimal_17 @ih h :)
def f_Row_putDecimal (F : Nat) (c : px_CT) (a0 : Nat) (a1 : Int32) (ph : px_H) : Option (Unit × px_H) :=
  f_Row_putDecimal_3 F c F a0 a1 ((1000000000 : Int32)) ph
theorem r_Row_putDecimal {l : Launch} {g : px_G} {d F : Nat} {a0 : Nat} {a1 : Int32} {ph : px_H} {r : Unit} {ph' : px_H} (h : f_Row_putDecimal F (px_ct g) a0 a1 ph = some (r, ph')) : PW l g (d + 1) m_Row_putDecimal 0 [.ref a0, .int a1, px_u] [] ph (px_qV r ph') := by
  unfold f_Row_putDecimal at h
  refine px_ldc rfl (by decide) rfl rfl ?_
  refine px_st (lv' := [_, _, _]) rfl rfl rfl rfl rfl rfl rfl ?_
  exact (r_Row_putDecimal_3 _ h :)
def f_Scribe_writeAhead (F : Nat) (c : px_CT) (a0 : Nat) (a1 : Int32) (a2 : Int32) (ph : px_H) : Option (Unit × px_H) :=
  (xo ph 10 a0).bind fun _ =>
  xb (f_Row_fillTo F c a0 ((a2 + (nI 48)).toInt64) (nI 32) ph) fun _ ph1 =>
  (xo ph1 10 a0).bind fun _ =>
  xb (f_Row_putDecimal F c a0 a1 ph1) fun _ ph2 =>
  (xo ph2 10 a0).bind fun _ =>
  xb (f_Row_fillTo F c a0 ((a2 + (nI 58)).toInt64) (nI 32) ph2) fun _ ph3 =>
  (xo ph3 10 a0).bind fun _ =>
  xb (f_Row_put F c a0 (nI 2) ((2656 : Int64)) ph3) fun _ ph4 =>
  some ((), ph4)
theorem r_Scribe_writeAhead {l : Launch} {g : px_G} {d F : Nat} {a0 : Nat} {a1 : Int32} {a2 : Int32} {ph : px_H} {r : Unit} {ph' : px_H} (h : f_Scribe_writeAhead F (px_ct g) a0 a1 a2 ph = some (r, ph')) : PW l g (d + 4) m_Scribe_writeAhead 0 [.ref a0, .int a1, .int a2] [] ph (px_qV r ph') := by
  unfold f_Scribe_writeAhead at h
  refine px_ld rfl rfl rfl rfl rfl ?_
  refine px_ld rfl rfl rfl rfl rfl ?_
  refine px_ic (k := 48) rfl rfl rfl ?_
  refine px_alu rfl rfl rfl ?_
  refine px_alu rfl rfl rfl ?_
  refine px_ic (k := 32) rfl rfl rfl ?_
  obtain ⟨fs, h0, h⟩ := xs_some h
  have e1 := xo_some h0
  obtain ⟨u0, ph1, h0, h⟩ := xb_some h
  refine px_cV2 rfl rfl e1 rfl rfl rfl rfl rfl rfl rfl (r_Row_fillTo h0 :) (fun _ _ q => nomatch q.2) (fun r ph' q => ?_)
  obtain ⟨rfl, q⟩ := q
  cases q
  refine px_ld rfl rfl rfl rfl rfl ?_
  refine px_ld rfl rfl rfl rfl rfl ?_
  obtain ⟨fs, h0, h⟩ := xs_some h
  have e1 := xo_some h0
  obtain ⟨u0, ph2, h0, h⟩ := xb_some h
  refine px_cV1 rfl rfl e1 rfl rfl rfl rfl rfl rfl rfl (r_Row_putDecimal h0 :) (fun _ _ q => nomatch q.2) (fun r ph' q => ?_)
  obtain ⟨rfl, q⟩ := q
  cases q
  refine px_ld rfl rfl rfl rfl rfl ?_
  refine px_ld rfl rfl rfl rfl rfl ?_
  refine px_ic (k := 58) rfl rfl rfl ?_
  refine px_alu rfl rfl rfl ?_
  refine px_alu rfl rfl rfl ?_
  refine px_ic (k := 32) rfl rfl rfl ?_
  obtain ⟨fs, h0, h⟩ := xs_some h
  have e1 := xo_some h0
  obtain ⟨u0, ph3, h0, h⟩ := xb_some h
  refine px_cV2 rfl rfl e1 rfl rfl rfl rfl rfl rfl rfl (r_Row_fillTo h0 :) (fun _ _ q => nomatch q.2) (fun r ph' q => ?_)
  obtain ⟨rfl, q⟩ := q
  cases q
  refine px_ld rfl rfl rfl rfl rfl ?_
  refine px_ic (k := 2) rfl rfl rfl ?_
  refine px_ldc2 rfl rfl rfl ?_
  obtain ⟨fs, h0, h⟩ := xs_some h
  have e1 := xo_some h0
  obtain ⟨u0, ph4, h0, h⟩ := xb_some h
  refine px_cV2 rfl rfl e1 rfl rfl rfl rfl rfl rfl rfl (r_Row_put h0 :) (fun _ _ q => nomatch q.2) (fun r ph' q => ?_)
  obtain ⟨rfl, q⟩ := q
  cases q
  cases h
  exact px_vret rfl rfl rfl ⟨rfl, rfl⟩
def f_Row_putHighestFirst_22 (F : Nat) (c : px_CT) (ph : px_H) : Option (Unit × px_H) :=
  some ((), ph)
theorem r_Row_putHighestFirst_22 {l : Launch} {g : px_G} {d F : Nat} {ph : px_H} {r : Unit} {ph' : px_H} (h : f_Row_putHighestFirst_22 F (px_ct g) ph = some (r, ph')) : PW l g (d + 1) m_Row_putHighestFirst 22 [px_u, px_u, px_u] [] ph (px_qV r ph') := by
  unfold f_Row_putHighestFirst_22 at h
  cases h
  exact px_vret rfl rfl rfl ⟨rfl, rfl⟩
def f_Row_putHighestFirst_3 (F : Nat) (c : px_CT) : Nat → Nat → Int32 → Int32 → px_H → Option (Unit × px_H)
  | 0, _, _, _, _ => none
  | n + 1, a0, a1, a2, ph =>
    if a2 < 0 then
      f_Row_putHighestFirst_22 F c ph
    else
      (xo ph 10 a0).bind fun _ =>
      xb (f_Row_put F c a0 (nI 1) (((a1.toUInt32 >>> (a2.toUInt32 &&& Int32.toUInt32 31)).toInt32).toInt64) ph) fun _ ph1 =>
      f_Row_putHighestFirst_3 F c n a0 a1 (a2 + Int32.ofInt (-8)) ph1
theorem r_Row_putHighestFirst_3 {l : Launch} {g : px_G} {d F : Nat} : ∀ (n : Nat) {a0 : Nat} {a1 : Int32} {a2 : Int32} {ph : px_H} {r : Unit} {ph' : px_H}, f_Row_putHighestFirst_3 F (px_ct g) n a0 a1 a2 ph = some (r, ph') → PW l g (d + 1) m_Row_putHighestFirst 3 [.ref a0, .int a1, .int a2] [] ph (px_qV r ph') := by
  intro n
  induction n with
  | zero => intro _ _ _ _ _ _ h; cases h
  | succ n ih =>
    intro a0 a1 a2 ph r ph' h
    unfold f_Row_putHighestFirst_3 at h
    refine px_ld rfl rfl rfl rfl rfl ?_
    refine px_iflt rfl rfl rfl (fun hc => ?_) (fun hc => ?_)
    · replace h := (if_pos hc).symm.trans h
      refine px_forget (n := 0) (lv' := [_, _, _]) rfl ?_
      refine px_forget (n := 1) (lv' := [_, _, _]) rfl ?_
      refine px_forget (n := 2) (lv' := [_, _, _]) rfl ?_
      exact (r_Row_putHighestFirst_22 h :)
    · replace h := (if_neg hc).symm.trans h
      refine px_ld rfl rfl rfl rfl rfl ?_
      refine px_ic (k := 1) rfl rfl rfl ?_
      refine px_ld rfl rfl rfl rfl rfl ?_
      refine px_ld rfl rfl rfl rfl rfl ?_
      refine px_alu rfl rfl rfl ?_
      refine px_alu rfl rfl rfl ?_
      obtain ⟨fs, h0, h⟩ := xs_some h
      have e1 := xo_some h0
      obtain ⟨u0, ph1, h0, h⟩ := xb_some h
      refine px_cV2 rfl rfl e1 rfl rfl rfl rfl rfl rfl rfl (r_Row_put h0 :) (fun _ _ q => nomatch q.2) (fun r ph' q => ?_)
      obtain ⟨rfl, q⟩ := q
      cases q
      refine px_iinc (lv' := [_, _, _]) rfl rfl rfl rfl rfl rfl ?_
      refine px_goto rfl rfl rfl ?_
      exact (ih h :)
def f_Row_putHighestFirst (F : Nat) (c : px_CT) (a0 : Nat) (a1 : Int32) (ph : px_H) : Option (Unit × px_H) :=
  f_Row_putHighestFirst_3 F c F a0 a1 (nI 24) ph
theorem r_Row_putHighestFirst {l : Launch} {g : px_G} {d F : Nat} {a0 : Nat} {a1 : Int32} {ph : px_H} {r : Unit} {ph' : px_H} (h : f_Row_putHighestFirst F (px_ct g) a0 a1 ph = some (r, ph')) : PW l g (d + 1) m_Row_putHighestFirst 0 [.ref a0, .int a1, px_u] [] ph (px_qV r ph') := by
  unfold f_Row_putHighestFirst at h
  refine px_ic (k := 24) rfl rfl rfl ?_
  refine px_st (lv' := [_, _, _]) rfl rfl rfl rfl rfl rfl rfl ?_
  exact (r_Row_putHighestFirst_3 _ h :)
def f_Scribe_writeIndex_262 (F : Nat) (c : px_CT) (ph : px_H) : Option (Unit × px_H) :=
  some ((), ph)
theorem r_Scribe_writeIndex_262 {l : Launch} {g : px_G} {d F : Nat} {ph : px_H} {r : Unit} {ph' : px_H} (h : f_Scribe_writeIndex_262 F (px_ct g) ph = some (r, ph')) : PW l g (d + 5) m_Scribe_writeIndex 262 [px_u, px_u, px_u, px_u, px_u, px_u, px_u, px_u, px_u, px_u] [] ph (px_qV r ph') := by
  unfold f_Scribe_writeIndex_262 at h
  cases h
  exact px_vret rfl rfl rfl ⟨rfl, rfl⟩
def f_Scribe_writeIndex_246 (F : Nat) (c : px_CT) (a1 : Nat) (a5 : Int32) (ph : px_H) : Option (Unit × px_H) :=
  if (a5 &&& (nI 1)) = (nI 1) then
    (xo ph 10 a1).bind fun _ =>
    xb (f_Row_put F c a1 (nI 1) ((10 : Int64)) ph) fun _ ph1 =>
    f_Scribe_writeIndex_262 F c ph1
  else
    f_Scribe_writeIndex_262 F c ph
theorem r_Scribe_writeIndex_246 {l : Launch} {g : px_G} {d F : Nat} {a1 : Nat} {a5 : Int32} {ph : px_H} {r : Unit} {ph' : px_H} (h : f_Scribe_writeIndex_246 F (px_ct g) a1 a5 ph = some (r, ph')) : PW l g (d + 5) m_Scribe_writeIndex 246 [px_u, .ref a1, px_u, px_u, px_u, .int a5, px_u, px_u, px_u, px_u] [] ph (px_qV r ph') := by
  unfold f_Scribe_writeIndex_246 at h
  refine px_ld rfl rfl rfl rfl rfl ?_
  refine px_ic (k := 1) rfl rfl rfl ?_
  refine px_alu rfl rfl rfl ?_
  refine px_ic (k := 1) rfl rfl rfl ?_
  refine px_icne rfl (by decide) rfl (fun hc => ?_) (fun hc => ?_)
  · replace h := (if_neg hc).symm.trans h
    refine px_forget (n := 1) (lv' := [_, _, _, _, _, _, _, _, _, _]) rfl ?_
    refine px_forget (n := 5) (lv' := [_, _, _, _, _, _, _, _, _, _]) rfl ?_
    exact (r_Scribe_writeIndex_262 h :)
  · replace h := (if_pos hc).symm.trans h
    refine px_ld rfl rfl rfl rfl rfl ?_
    refine px_ic (k := 1) rfl rfl rfl ?_
    refine px_ldc2 rfl rfl rfl ?_
    obtain ⟨fs, h0, h⟩ := xs_some h
    have e1 := xo_some h0
    obtain ⟨u0, ph1, h0, h⟩ := xb_some h
    refine px_cV2 rfl rfl e1 rfl rfl rfl rfl rfl rfl rfl (r_Row_put h0 :) (fun _ _ q => nomatch q.2) (fun r ph' q => ?_)
    obtain ⟨rfl, q⟩ := q
    cases q
    refine px_forget (n := 1) (lv' := [_, _, _, _, _, _, _, _, _, _]) rfl ?_
    refine px_forget (n := 5) (lv' := [_, _, _, _, _, _, _, _, _, _]) rfl ?_
    exact (r_Scribe_writeIndex_262 h :)
def f_Scribe_writeIndex_240 (F : Nat) (c : px_CT) (k152 : Nat → Nat → Nat → Int32 → Int32 → px_H → Option (Unit × px_H)) (a0 : Nat) (a1 : Nat) (a2 : Nat) (a5 : Int32) (a7 : Int32) (ph : px_H) : Option (Unit × px_H) :=
  k152 a0 a1 a2 a5 (a7 + nI 1) ph
theorem r_Scribe_writeIndex_240 {l : Launch} {g : px_G} {d F : Nat} {k152 : Nat → Nat → Nat → Int32 → Int32 → px_H → Option (Unit × px_H)} (hk152 : ∀ {a0 : Nat} {a1 : Nat} {a2 : Nat} {a5 : Int32} {a7 : Int32} {ph : px_H} {r : Unit} {ph' : px_H}, k152 a0 a1 a2 a5 a7 ph = some (r, ph') → PW l g (d + 5) m_Scribe_writeIndex 152 [.ref a0, .ref a1, .ref a2, px_u, px_u, .int a5, px_u, .int a7, px_u, px_u] [] ph (px_qV r ph')) {a0 : Nat} {a1 : Nat} {a2 : Nat} {a5 : Int32} {a7 : Int32} {ph : px_H} {r : Unit} {ph' : px_H} (h : f_Scribe_writeIndex_240 F (px_ct g) k152 a0 a1 a2 a5 a7 ph = some (r, ph')) : PW l g (d + 5) m_Scribe_writeIndex 240 [.ref a0, .ref a1, .ref a2, px_u, px_u, .int a5, px_u, .int a7, px_u, px_u] [] ph (px_qV r ph') := by
  unfold f_Scribe_writeIndex_240 at h
  refine px_iinc (lv' := [_, _, _, _, _, _, _, _, _, _]) rfl rfl rfl rfl rfl rfl ?_
  refine px_goto rfl (by decide) rfl ?_
  exact (hk152 h :)
def f_Scribe_writeIndex_234 (F : Nat) (c : px_CT) (k152 : Nat → Nat → Nat → Int32 → Int32 → px_H → Option (Unit × px_H)) (k168 : Nat → Nat → Nat → Int32 → Int32 → Option Nat → Int32 → px_H → Option (Unit × px_H)) (a0 : Nat) (a1 : Nat) (a2 : Nat) (a5 : Int32) (a7 : Int32) (a8 : Option Nat) (a9 : Int32) (ph : px_H) : Option (Unit × px_H) :=
  k168 a0 a1 a2 a5 a7 a8 (a9 + nI 1) ph
theorem r_Scribe_writeIndex_234 {l : Launch} {g : px_G} {d F : Nat} {k152 : Nat → Nat → Nat → Int32 → Int32 → px_H → Option (Unit × px_H)} (hk152 : ∀ {a0 : Nat} {a1 : Nat} {a2 : Nat} {a5 : Int32} {a7 : Int32} {ph : px_H} {r : Unit} {ph' : px_H}, k152 a0 a1 a2 a5 a7 ph = some (r, ph') → PW l g (d + 5) m_Scribe_writeIndex 152 [.ref a0, .ref a1, .ref a2, px_u, px_u, .int a5, px_u, .int a7, px_u, px_u] [] ph (px_qV r ph')) {k168 : Nat → Nat → Nat → Int32 → Int32 → Option Nat → Int32 → px_H → Option (Unit × px_H)} (hk168 : ∀ {a0 : Nat} {a1 : Nat} {a2 : Nat} {a5 : Int32} {a7 : Int32} {a8 : Option Nat} {a9 : Int32} {ph : px_H} {r : Unit} {ph' : px_H}, k168 a0 a1 a2 a5 a7 a8 a9 ph = some (r, ph') → PW l g (d + 5) m_Scribe_writeIndex 168 [.ref a0, .ref a1, .ref a2, px_u, px_u, .int a5, px_u, .int a7, va_rf a8, .int a9] [] ph (px_qV r ph')) {a0 : Nat} {a1 : Nat} {a2 : Nat} {a5 : Int32} {a7 : Int32} {a8 : Option Nat} {a9 : Int32} {ph : px_H} {r : Unit} {ph' : px_H} (h : f_Scribe_writeIndex_234 F (px_ct g) k152 k168 a0 a1 a2 a5 a7 a8 a9 ph = some (r, ph')) : PW l g (d + 5) m_Scribe_writeIndex 234 [.ref a0, .ref a1, .ref a2, px_u, px_u, .int a5, px_u, .int a7, va_rf a8, .int a9] [] ph (px_qV r ph') := by
  unfold f_Scribe_writeIndex_234 at h
  refine px_iinc (lv' := [_, _, _, _, _, _, _, _, _, _]) rfl rfl rfl (by first | rfl | (cases a8 <;> rfl)) rfl rfl ?_
  refine px_goto rfl (by decide) rfl ?_
  exact (hk168 h :)
def f_Scribe_writeIndex_168 (F : Nat) (c : px_CT) (k152 : Nat → Nat → Nat → Int32 → Int32 → px_H → Option (Unit × px_H)) : Nat → Nat → Nat → Nat → Int32 → Int32 → Option Nat → Int32 → px_H → Option (Unit × px_H)
  | 0, _, _, _, _, _, _, _, _ => none
  | n + 1, a0, a1, a2, a5, a7, a8, a9, ph =>
    xb (f_Scribe_isObject F c a8 ph) fun t1 ph2 =>
    if t1 = 0 then
      f_Scribe_writeIndex_240 F c k152 a0 a1 a2 a5 a7 ph2
    else
      (a8).bind fun p3 =>
      (xgI ph2 7 11 p3).bind fun t4 =>
      if t4 ≤ a9 then
        f_Scribe_writeIndex_240 F c k152 a0 a1 a2 a5 a7 ph2
      else
        (xo ph2 7 p3).bind fun _ =>
        xb (f_ObjectFile_isDefining F c p3 a9 ph2) fun t5 ph6 =>
        if t5 = 0 then
          f_Scribe_writeIndex_234 F c k152 (f_Scribe_writeIndex_168 F c k152 n) a0 a1 a2 a5 a7 (some p3) a9 ph6
        else
          (xgR ph6 11 0 a0).bind fun t7 =>
          (xgR ph6 3 11 t7).bind fun t8 =>
          (xgR ph6 11 2 a0).bind fun t9 =>
          (xo ph6 7 p3).bind fun _ =>
          xb (f_ObjectFile_nameStart F c p3 a9 ph6) fun t10 ph11 =>
          (xo ph11 5 t8).bind fun _ =>
          xb (f_Name_read F c t8 t9 t10 ph11) fun _ ph12 =>
          (xgR ph12 11 0 a0).bind fun t13 =>
          (xgR ph12 3 11 t13).bind fun t14 =>
          (xo ph12 5 t14).bind fun _ =>
          xb (f_Name_writeTo F c t14 a1 ph12) fun _ ph15 =>
          (xo ph15 10 a1).bind fun _ =>
          xb (f_Row_put F c a1 (nI 1) (lN 0) ph15) fun _ ph16 =>
          f_Scribe_writeIndex_234 F c k152 (f_Scribe_writeIndex_168 F c k152 n) a0 a1 a2 a5 a7 (some p3) a9 ph16
theorem r_Scribe_writeIndex_168 {l : Launch} {g : px_G} {d F : Nat} {k152 : Nat → Nat → Nat → Int32 → Int32 → px_H → Option (Unit × px_H)} (hk152 : ∀ {a0 : Nat} {a1 : Nat} {a2 : Nat} {a5 : Int32} {a7 : Int32} {ph : px_H} {r : Unit} {ph' : px_H}, k152 a0 a1 a2 a5 a7 ph = some (r, ph') → PW l g (d + 5) m_Scribe_writeIndex 152 [.ref a0, .ref a1, .ref a2, px_u, px_u, .int a5, px_u, .int a7, px_u, px_u] [] ph (px_qV r ph')) : ∀ (n : Nat) {a0 : Nat} {a1 : Nat} {a2 : Nat} {a5 : Int32} {a7 : Int32} {a8 : Option Nat} {a9 : Int32} {ph : px_H} {r : Unit} {ph' : px_H}, f_Scribe_writeIndex_168 F (px_ct g) k152 n a0 a1 a2 a5 a7 a8 a9 ph = some (r, ph') → PW l g (d + 5) m_Scribe_writeIndex 168 [.ref a0, .ref a1, .ref a2, px_u, px_u, .int a5, px_u, .int a7, va_rf a8, .int a9] [] ph (px_qV r ph') := by
  intro n
  induction n with
  | zero => intro _ _ _ _ _ _ _ _ _ _ h; cases h
  | succ n ih =>
    intro a0 a1 a2 a5 a7 a8 a9 ph r ph' h
    unfold f_Scribe_writeIndex_168 at h
    refine px_ld rfl rfl rfl (by first | rfl | (cases a8 <;> rfl)) rfl ?_
    obtain ⟨t1, ph2, h0, h⟩ := xb_some h
    refine px_cS1 (lv0 := [va_rf a8]) rfl rfl rfl (by first | rfl | (cases a8 <;> rfl)) rfl (by first | rfl | (cases a8 <;> rfl)) rfl (r_Scribe_isObject h0 :) (fun _ _ q => nomatch q.2) (fun r ph' q => ?_)
    obtain ⟨rfl, q⟩ := q
    cases q
    refine px_ifeq rfl (by decide) rfl (fun hc => ?_) (fun hc => ?_)
    · replace h := (if_pos hc).symm.trans h
      refine px_forget (n := 8) (lv' := [_, _, _, _, _, _, _, _, _, _]) rfl ?_
      refine px_forget (n := 9) (lv' := [_, _, _, _, _, _, _, _, _, _]) rfl ?_
      exact (r_Scribe_writeIndex_240 @hk152 h :)
    · replace h := (if_neg hc).symm.trans h
      refine px_ld rfl rfl rfl rfl rfl ?_
      refine px_ld rfl rfl rfl (by first | rfl | (cases a8 <;> rfl)) rfl ?_
      obtain ⟨p3, h0, h⟩ := xs_some h
      revert h
      subst h0
      intro h
      obtain ⟨t4, h0, h⟩ := xs_some h
      obtain ⟨fs, e1, e2⟩ := xgI_some h0
      refine px_get rfl e1 e2 rfl ?_
      refine px_icge rfl (by decide) rfl (fun hc => ?_) (fun hc => ?_)
      · replace h := (if_pos hc).symm.trans h
        refine px_forget (n := 8) (lv' := [_, _, _, _, _, _, _, _, _, _]) rfl ?_
        refine px_forget (n := 9) (lv' := [_, _, _, _, _, _, _, _, _, _]) rfl ?_
        exact (r_Scribe_writeIndex_240 @hk152 h :)
      · replace h := (if_neg hc).symm.trans h
        refine px_ld rfl rfl rfl rfl rfl ?_
        refine px_ld rfl rfl rfl rfl rfl ?_
        obtain ⟨fs, h0, h⟩ := xs_some h
        have e1 := xo_some h0
        obtain ⟨t5, ph6, h0, h⟩ := xb_some h
        refine px_cV1 rfl rfl e1 rfl rfl rfl rfl rfl rfl rfl (r_ObjectFile_isDefining h0 :) (fun _ _ q => nomatch q.2) (fun r ph' q => ?_)
        obtain ⟨rfl, q⟩ := q
        cases q
        refine px_ifeq rfl (by decide) rfl (fun hc => ?_) (fun hc => ?_)
        · replace h := (if_pos hc).symm.trans h
          exact (r_Scribe_writeIndex_234 @hk152 @ih h :)
        · replace h := (if_neg hc).symm.trans h
          refine px_ld rfl rfl rfl rfl rfl ?_
          obtain ⟨t7, h0, h⟩ := xs_some h
          obtain ⟨fs, e1, e2⟩ := xgR_some h0
          refine px_get rfl e1 e2 rfl ?_
          obtain ⟨t8, h0, h⟩ := xs_some h
          obtain ⟨fs, e1, e2⟩ := xgR_some h0
          refine px_get rfl e1 e2 rfl ?_
          refine px_ld rfl rfl rfl rfl rfl ?_
          obtain ⟨t9, h0, h⟩ := xs_some h
          obtain ⟨fs, e1, e2⟩ := xgR_some h0
          refine px_get rfl e1 e2 rfl ?_
          refine px_ld rfl rfl rfl rfl rfl ?_
          refine px_ld rfl rfl rfl rfl rfl ?_
          obtain ⟨fs, h0, h⟩ := xs_some h
          have e1 := xo_some h0
          obtain ⟨t10, ph11, h0, h⟩ := xb_some h
          refine px_cV1 rfl rfl e1 rfl rfl rfl rfl rfl rfl rfl (r_ObjectFile_nameStart h0 :) (fun _ _ q => nomatch q.2) (fun r ph' q => ?_)
          obtain ⟨rfl, q⟩ := q
          cases q
          obtain ⟨fs, h0, h⟩ := xs_some h
          have e1 := xo_some h0
          obtain ⟨u0, ph12, h0, h⟩ := xb_some h
          refine px_cV2 rfl rfl e1 rfl rfl rfl rfl rfl rfl rfl (r_Name_read h0 :) (fun _ _ q => nomatch q.2) (fun r ph' q => ?_)
          obtain ⟨rfl, q⟩ := q
          cases q
          refine px_ld rfl rfl rfl rfl rfl ?_
          obtain ⟨t13, h0, h⟩ := xs_some h
          obtain ⟨fs, e1, e2⟩ := xgR_some h0
          refine px_get rfl e1 e2 rfl ?_
          obtain ⟨t14, h0, h⟩ := xs_some h
          obtain ⟨fs, e1, e2⟩ := xgR_some h0
          refine px_get rfl e1 e2 rfl ?_
          refine px_ld rfl rfl rfl rfl rfl ?_
          obtain ⟨fs, h0, h⟩ := xs_some h
          have e1 := xo_some h0
          obtain ⟨u0, ph15, h0, h⟩ := xb_some h
          refine px_cV1 rfl rfl e1 rfl rfl rfl rfl rfl rfl rfl (r_Name_writeTo h0 :) (fun _ _ q => nomatch q.2) (fun r ph' q => ?_)
          obtain ⟨rfl, q⟩ := q
          cases q
          refine px_ld rfl rfl rfl rfl rfl ?_
          refine px_ic (k := 1) rfl rfl rfl ?_
          refine px_alu rfl rfl rfl ?_
          obtain ⟨fs, h0, h⟩ := xs_some h
          have e1 := xo_some h0
          obtain ⟨u0, ph16, h0, h⟩ := xb_some h
          refine px_cV2 rfl rfl e1 rfl rfl rfl rfl rfl rfl rfl (r_Row_put h0 :) (fun _ _ q => nomatch q.2) (fun r ph' q => ?_)
          obtain ⟨rfl, q⟩ := q
          cases q
          exact (r_Scribe_writeIndex_234 @hk152 @ih h :)
def f_Scribe_writeIndex_152 (F : Nat) (c : px_CT) : Nat → Nat → Nat → Nat → Int32 → Int32 → px_H → Option (Unit × px_H)
  | 0, _, _, _, _, _, _ => none
  | n + 1, a0, a1, a2, a5, a7, ph =>
    (xal ph 4 a2).bind fun t1 =>
    if t1 ≤ a7 then
      f_Scribe_writeIndex_246 F c a1 a5 ph
    else
      (xaN ph 4 a2 a7).bind fun t2 =>
      f_Scribe_writeIndex_168 F c (f_Scribe_writeIndex_152 F c n) F a0 a1 a2 a5 a7 t2 (nI 1) ph
theorem r_Scribe_writeIndex_152 {l : Launch} {g : px_G} {d F : Nat} : ∀ (n : Nat) {a0 : Nat} {a1 : Nat} {a2 : Nat} {a5 : Int32} {a7 : Int32} {ph : px_H} {r : Unit} {ph' : px_H}, f_Scribe_writeIndex_152 F (px_ct g) n a0 a1 a2 a5 a7 ph = some (r, ph') → PW l g (d + 5) m_Scribe_writeIndex 152 [.ref a0, .ref a1, .ref a2, px_u, px_u, .int a5, px_u, .int a7, px_u, px_u] [] ph (px_qV r ph') := by
  intro n
  induction n with
  | zero => intro _ _ _ _ _ _ _ _ h; cases h
  | succ n ih =>
    intro a0 a1 a2 a5 a7 ph r ph' h
    unfold f_Scribe_writeIndex_152 at h
    refine px_ld rfl rfl rfl rfl rfl ?_
    refine px_ld rfl rfl rfl rfl rfl ?_
    obtain ⟨t1, h0, h⟩ := xs_some h
    obtain ⟨x, e1, e3⟩ := xal_some h0
    subst e3
    refine px_alen rfl e1 rfl rfl ?_
    refine px_icge rfl (by decide) rfl (fun hc => ?_) (fun hc => ?_)
    · replace h := (if_pos hc).symm.trans h
      refine px_forget (n := 0) (lv' := [_, _, _, _, _, _, _, _, _, _]) rfl ?_
      refine px_forget (n := 2) (lv' := [_, _, _, _, _, _, _, _, _, _]) rfl ?_
      refine px_forget (n := 7) (lv' := [_, _, _, _, _, _, _, _, _, _]) rfl ?_
      exact (r_Scribe_writeIndex_246 h :)
    · replace h := (if_neg hc).symm.trans h
      refine px_ld rfl rfl rfl rfl rfl ?_
      refine px_ld rfl rfl rfl rfl rfl ?_
      obtain ⟨t2, h0, h⟩ := xs_some h
      obtain ⟨N, f, e1, e2, e3⟩ := xaN_some h0
      refine px_aaldO rfl e1 rfl e2 e3 rfl ?_
      refine px_st (lv' := [.ref a0, .ref a1, .ref a2, px_u, px_u, .int a5, px_u, .int a7, va_rf t2, px_u]) rfl rfl (by first | rfl | (cases t2 <;> rfl)) (by first | rfl | (cases t2 <;> rfl)) rfl (by first | rfl | (cases t2 <;> rfl)) rfl ?_
      refine px_ic (k := 1) rfl rfl rfl ?_
      refine px_st (lv' := [.ref a0, .ref a1, .ref a2, px_u, px_u, .int a5, px_u, .int a7, va_rf t2, .int (nI 1)]) rfl rfl rfl rfl (by first | rfl | (cases t2 <;> rfl)) rfl rfl ?_
      exact (r_Scribe_writeIndex_168 @ih _ h :)
def f_Scribe_writeIndex_149 (F : Nat) (c : px_CT) (a0 : Nat) (a1 : Nat) (a2 : Nat) (a5 : Int32) (ph : px_H) : Option (Unit × px_H) :=
  f_Scribe_writeIndex_152 F c F a0 a1 a2 a5 (nI 0) ph
theorem r_Scribe_writeIndex_149 {l : Launch} {g : px_G} {d F : Nat} {a0 : Nat} {a1 : Nat} {a2 : Nat} {a5 : Int32} {ph : px_H} {r : Unit} {ph' : px_H} (h : f_Scribe_writeIndex_149 F (px_ct g) a0 a1 a2 a5 ph = some (r, ph')) : PW l g (d + 5) m_Scribe_writeIndex 149 [.ref a0, .ref a1, .ref a2, px_u, px_u, .int a5, px_u, px_u, px_u, px_u] [] ph (px_qV r ph') := by
  unfold f_Scribe_writeIndex_149 at h
  refine px_ic (k := 0) rfl rfl rfl ?_
  refine px_st (lv' := [_, _, _, _, _, _, _, _, _, _]) rfl rfl rfl rfl rfl rfl rfl ?_
  exact (r_Scribe_writeIndex_152 _ h :)
def f_Scribe_writeIndex_140 (F : Nat) (c : px_CT) (k54 : Nat → Nat → Nat → Int32 → Int32 → Int32 → px_H → Option (Unit × px_H)) (a0 : Nat) (a1 : Nat) (a2 : Nat) (a5 : Int32) (a7 : Int32) (s0 : Int32) (s1 : Int32) (ph : px_H) : Option (Unit × px_H) :=
  k54 a0 a1 a2 a5 (s0 + s1) (a7 + nI 1) ph
theorem r_Scribe_writeIndex_140 {l : Launch} {g : px_G} {d F : Nat} {k54 : Nat → Nat → Nat → Int32 → Int32 → Int32 → px_H → Option (Unit × px_H)} (hk54 : ∀ {a0 : Nat} {a1 : Nat} {a2 : Nat} {a5 : Int32} {a6 : Int32} {a7 : Int32} {ph : px_H} {r : Unit} {ph' : px_H}, k54 a0 a1 a2 a5 a6 a7 ph = some (r, ph') → PW l g (d + 5) m_Scribe_writeIndex 54 [.ref a0, .ref a1, .ref a2, px_u, px_u, .int a5, .int a6, .int a7, px_u, px_u] [] ph (px_qV r ph')) {a0 : Nat} {a1 : Nat} {a2 : Nat} {a5 : Int32} {a7 : Int32} {s0 : Int32} {s1 : Int32} {ph : px_H} {r : Unit} {ph' : px_H} (h : f_Scribe_writeIndex_140 F (px_ct g) k54 a0 a1 a2 a5 a7 s0 s1 ph = some (r, ph')) : PW l g (d + 5) m_Scribe_writeIndex 140 [.ref a0, .ref a1, .ref a2, px_u, px_u, .int a5, px_u, .int a7, px_u, px_u] [.int s1, .int s0] ph (px_qV r ph') := by
  unfold f_Scribe_writeIndex_140 at h
  refine px_alu rfl rfl rfl ?_
  refine px_st (lv' := [_, _, _, _, _, _, _, _, _, _]) rfl rfl rfl rfl rfl rfl rfl ?_
  refine px_iinc (lv' := [_, _, _, _, _, _, _, _, _, _]) rfl rfl rfl rfl rfl rfl ?_
  refine px_goto rfl (by decide) rfl ?_
  exact (hk54 h :)
def f_Scribe_writeIndex_110 (F : Nat) (c : px_CT) (k54 : Nat → Nat → Nat → Int32 → Int32 → Int32 → px_H → Option (Unit × px_H)) (a0 : Nat) (a1 : Nat) (a2 : Nat) (a5 : Int32) (a6 : Int32) (a7 : Int32) (a8 : Option Nat) (ph : px_H) : Option (Unit × px_H) :=
  xb (f_Scribe_isObject F c a8 ph) fun t1 ph2 =>
  if t1 = 0 then
    f_Scribe_writeIndex_140 F c k54 a0 a1 a2 a5 a7 a6 (nI 0) ph2
  else
    (a8).bind fun p3 =>
    (xgI ph2 7 6 p3).bind fun t4 =>
    (xgI ph2 7 6 p3).bind fun t5 =>
    f_Scribe_writeIndex_140 F c k54 a0 a1 a2 a5 a7 a6 (((nI 60) + t4) + (t5 &&& (nI 1))) ph2
theorem r_Scribe_writeIndex_110 {l : Launch} {g : px_G} {d F : Nat} {k54 : Nat → Nat → Nat → Int32 → Int32 → Int32 → px_H → Option (Unit × px_H)} (hk54 : ∀ {a0 : Nat} {a1 : Nat} {a2 : Nat} {a5 : Int32} {a6 : Int32} {a7 : Int32} {ph : px_H} {r : Unit} {ph' : px_H}, k54 a0 a1 a2 a5 a6 a7 ph = some (r, ph') → PW l g (d + 5) m_Scribe_writeIndex 54 [.ref a0, .ref a1, .ref a2, px_u, px_u, .int a5, .int a6, .int a7, px_u, px_u] [] ph (px_qV r ph')) {a0 : Nat} {a1 : Nat} {a2 : Nat} {a5 : Int32} {a6 : Int32} {a7 : Int32} {a8 : Option Nat} {ph : px_H} {r : Unit} {ph' : px_H} (h : f_Scribe_writeIndex_110 F (px_ct g) k54 a0 a1 a2 a5 a6 a7 a8 ph = some (r, ph')) : PW l g (d + 5) m_Scribe_writeIndex 110 [.ref a0, .ref a1, .ref a2, px_u, px_u, .int a5, .int a6, .int a7, va_rf a8, px_u] [] ph (px_qV r ph') := by
  unfold f_Scribe_writeIndex_110 at h
  refine px_ld rfl rfl rfl rfl rfl ?_
  refine px_ld rfl rfl rfl (by first | rfl | (cases a8 <;> rfl)) rfl ?_
  obtain ⟨t1, ph2, h0, h⟩ := xb_some h
  refine px_cS1 (lv0 := [va_rf a8]) rfl rfl rfl (by first | rfl | (cases a8 <;> rfl)) rfl (by first | rfl | (cases a8 <;> rfl)) rfl (r_Scribe_isObject h0 :) (fun _ _ q => nomatch q.2) (fun r ph' q => ?_)
  obtain ⟨rfl, q⟩ := q
  cases q
  refine px_ifeq rfl (by decide) rfl (fun hc => ?_) (fun hc => ?_)
  · replace h := (if_pos hc).symm.trans h
    refine px_ic (k := 0) rfl rfl rfl ?_
    refine px_forget (n := 6) (lv' := [_, _, _, _, _, _, _, _, _, _]) rfl ?_
    refine px_forget (n := 8) (lv' := [_, _, _, _, _, _, _, _, _, _]) rfl ?_
    exact (r_Scribe_writeIndex_140 @hk54 h :)
  · replace h := (if_neg hc).symm.trans h
    refine px_ic (k := 60) rfl rfl rfl ?_
    refine px_ld rfl rfl rfl (by first | rfl | (cases a8 <;> rfl)) rfl ?_
    obtain ⟨p3, h0, h⟩ := xs_some h
    revert h
    subst h0
    intro h
    obtain ⟨t4, h0, h⟩ := xs_some h
    obtain ⟨fs, e1, e2⟩ := xgI_some h0
    refine px_get rfl e1 e2 rfl ?_
    refine px_alu rfl rfl rfl ?_
    refine px_ld rfl rfl rfl rfl rfl ?_
    obtain ⟨t5, h0, h⟩ := xs_some h
    obtain ⟨fs, e1, e2⟩ := xgI_some h0
    refine px_get rfl e1 e2 rfl ?_
    refine px_ic (k := 1) rfl rfl rfl ?_
    refine px_alu rfl rfl rfl ?_
    refine px_alu rfl rfl rfl ?_
    refine px_goto rfl (by decide) rfl ?_
    refine px_forget (n := 6) (lv' := [_, _, _, _, _, _, _, _, _, _]) rfl ?_
    refine px_forget (n := 8) (lv' := [_, _, _, _, _, _, _, _, _, _]) rfl ?_
    exact (r_Scribe_writeIndex_140 @hk54 h :)
def f_Scribe_writeIndex_104 (F : Nat) (c : px_CT) (k54 : Nat → Nat → Nat → Int32 → Int32 → Int32 → px_H → Option (Unit × px_H)) (k70 : Nat → Nat → Nat → Int32 → Int32 → Int32 → Option Nat → Int32 → px_H → Option (Unit × px_H)) (a0 : Nat) (a1 : Nat) (a2 : Nat) (a5 : Int32) (a6 : Int32) (a7 : Int32) (a8 : Option Nat) (a9 : Int32) (ph : px_H) : Option (Unit × px_H) :=
  k70 a0 a1 a2 a5 a6 a7 a8 (a9 + nI 1) ph
theorem r_Scribe_writeIndex_104 {l : Launch} {g : px_G} {d F : Nat} {k54 : Nat → Nat → Nat → Int32 → Int32 → Int32 → px_H → Option (Unit × px_H)} (hk54 : ∀ {a0 : Nat} {a1 : Nat} {a2 : Nat} {a5 : Int32} {a6 : Int32} {a7 : Int32} {ph : px_H} {r : Unit} {ph' : px_H}, k54 a0 a1 a2 a5 a6 a7 ph = some (r, ph') → PW l g (d + 5) m_Scribe_writeIndex 54 [.ref a0, .ref a1, .ref a2, px_u, px_u, .int a5, .int a6, .int a7, px_u, px_u] [] ph (px_qV r ph')) {k70 : Nat → Nat → Nat → Int32 → Int32 → Int32 → Option Nat → Int32 → px_H → Option (Unit × px_H)} (hk70 : ∀ {a0 : Nat} {a1 : Nat} {a2 : Nat} {a5 : Int32} {a6 : Int32} {a7 : Int32} {a8 : Option Nat} {a9 : Int32} {ph : px_H} {r : Unit} {ph' : px_H}, k70 a0 a1 a2 a5 a6 a7 a8 a9 ph = some (r, ph') → PW l g (d + 5) m_Scribe_writeIndex 70 [.ref a0, .ref a1, .ref a2, px_u, px_u, .int a5, .int a6, .int a7, va_rf a8, .int a9] [] ph (px_qV r ph')) {a0 : Nat} {a1 : Nat} {a2 : Nat} {a5 : Int32} {a6 : Int32} {a7 : Int32} {a8 : Option Nat} {a9 : Int32} {ph : px_H} {r : Unit} {ph' : px_H} (h : f_Scribe_writeIndex_104 F (px_ct g) k54 k70 a0 a1 a2 a5 a6 a7 a8 a9 ph = some (r, ph')) : PW l g (d + 5) m_Scribe_writeIndex 104 [.ref a0, .ref a1, .ref a2, px_u, px_u, .int a5, .int a6, .int a7, va_rf a8, .int a9] [] ph (px_qV r ph') := by
  unfold f_Scribe_writeIndex_104 at h
  refine px_iinc (lv' := [_, _, _, _, _, _, _, _, _, _]) rfl rfl rfl (by first | rfl | (cases a8 <;> rfl)) rfl rfl ?_
  refine px_goto rfl (by decide) rfl ?_
  exact (hk70 h :)
def f_Scribe_writeIndex_70 (F : Nat) (c : px_CT) (k54 : Nat → Nat → Nat → Int32 → Int32 → Int32 → px_H → Option (Unit × px_H)) : Nat → Nat → Nat → Nat → Int32 → Int32 → Int32 → Option Nat → Int32 → px_H → Option (Unit × px_H)
  | 0, _, _, _, _, _, _, _, _, _ => none
  | n + 1, a0, a1, a2, a5, a6, a7, a8, a9, ph =>
    xb (f_Scribe_isObject F c a8 ph) fun t1 ph2 =>
    if t1 = 0 then
      f_Scribe_writeIndex_110 F c k54 a0 a1 a2 a5 a6 a7 a8 ph2
    else
      (a8).bind fun p3 =>
      (xgI ph2 7 11 p3).bind fun t4 =>
      if t4 ≤ a9 then
        f_Scribe_writeIndex_110 F c k54 a0 a1 a2 a5 a6 a7 (some p3) ph2
      else
        (xo ph2 7 p3).bind fun _ =>
        xb (f_ObjectFile_isDefining F c p3 a9 ph2) fun t5 ph6 =>
        if t5 = 0 then
          f_Scribe_writeIndex_104 F c k54 (f_Scribe_writeIndex_70 F c k54 n) a0 a1 a2 a5 a6 a7 (some p3) a9 ph6
        else
          (xo ph6 10 a1).bind fun _ =>
          xb (f_Row_putHighestFirst F c a1 a6 ph6) fun _ ph7 =>
          f_Scribe_writeIndex_104 F c k54 (f_Scribe_writeIndex_70 F c k54 n) a0 a1 a2 a5 a6 a7 (some p3) a9 ph7
theorem r_Scribe_writeIndex_70 {l : Launch} {g : px_G} {d F : Nat} {k54 : Nat → Nat → Nat → Int32 → Int32 → Int32 → px_H → Option (Unit × px_H)} (hk54 : ∀ {a0 : Nat} {a1 : Nat} {a2 : Nat} {a5 : Int32} {a6 : Int32} {a7 : Int32} {ph : px_H} {r : Unit} {ph' : px_H}, k54 a0 a1 a2 a5 a6 a7 ph = some (r, ph') → PW l g (d + 5) m_Scribe_writeIndex 54 [.ref a0, .ref a1, .ref a2, px_u, px_u, .int a5, .int a6, .int a7, px_u, px_u] [] ph (px_qV r ph')) : ∀ (n : Nat) {a0 : Nat} {a1 : Nat} {a2 : Nat} {a5 : Int32} {a6 : Int32} {a7 : Int32} {a8 : Option Nat} {a9 : Int32} {ph : px_H} {r : Unit} {ph' : px_H}, f_Scribe_writeIndex_70 F (px_ct g) k54 n a0 a1 a2 a5 a6 a7 a8 a9 ph = some (r, ph') → PW l g (d + 5) m_Scribe_writeIndex 70 [.ref a0, .ref a1, .ref a2, px_u, px_u, .int a5, .int a6, .int a7, va_rf a8, .int a9] [] ph (px_qV r ph') := by
  intro n
  induction n with
  | zero => intro _ _ _ _ _ _ _ _ _ _ _ h; cases h
  | succ n ih =>
    intro a0 a1 a2 a5 a6 a7 a8 a9 ph r ph' h
    unfold f_Scribe_writeIndex_70 at h
    refine px_ld rfl rfl rfl (by first | rfl | (cases a8 <;> rfl)) rfl ?_
    obtain ⟨t1, ph2, h0, h⟩ := xb_some h
    refine px_cS1 (lv0 := [va_rf a8]) rfl rfl rfl (by first | rfl | (cases a8 <;> rfl)) rfl (by first | rfl | (cases a8 <;> rfl)) rfl (r_Scribe_isObject h0 :) (fun _ _ q => nomatch q.2) (fun r ph' q => ?_)
    obtain ⟨rfl, q⟩ := q
    cases q
    refine px_ifeq rfl (by decide) rfl (fun hc => ?_) (fun hc => ?_)
    · replace h := (if_pos hc).symm.trans h
      refine px_forget (n := 9) (lv' := [_, _, _, _, _, _, _, _, _, _]) rfl ?_
      exact (r_Scribe_writeIndex_110 @hk54 h :)
    · replace h := (if_neg hc).symm.trans h
      refine px_ld rfl rfl rfl rfl rfl ?_
      refine px_ld rfl rfl rfl (by first | rfl | (cases a8 <;> rfl)) rfl ?_
      obtain ⟨p3, h0, h⟩ := xs_some h
      revert h
      subst h0
      intro h
      obtain ⟨t4, h0, h⟩ := xs_some h
      obtain ⟨fs, e1, e2⟩ := xgI_some h0
      refine px_get rfl e1 e2 rfl ?_
      refine px_icge rfl (by decide) rfl (fun hc => ?_) (fun hc => ?_)
      · replace h := (if_pos hc).symm.trans h
        refine px_forget (n := 9) (lv' := [_, _, _, _, _, _, _, _, _, _]) rfl ?_
        exact (r_Scribe_writeIndex_110 @hk54 h :)
      · replace h := (if_neg hc).symm.trans h
        refine px_ld rfl rfl rfl rfl rfl ?_
        refine px_ld rfl rfl rfl rfl rfl ?_
        obtain ⟨fs, h0, h⟩ := xs_some h
        have e1 := xo_some h0
        obtain ⟨t5, ph6, h0, h⟩ := xb_some h
        refine px_cV1 rfl rfl e1 rfl rfl rfl rfl rfl rfl rfl (r_ObjectFile_isDefining h0 :) (fun _ _ q => nomatch q.2) (fun r ph' q => ?_)
        obtain ⟨rfl, q⟩ := q
        cases q
        refine px_ifeq rfl (by decide) rfl (fun hc => ?_) (fun hc => ?_)
        · replace h := (if_pos hc).symm.trans h
          exact (r_Scribe_writeIndex_104 @hk54 @ih h :)
        · replace h := (if_neg hc).symm.trans h
          refine px_ld rfl rfl rfl rfl rfl ?_
          refine px_ld rfl rfl rfl rfl rfl ?_
          obtain ⟨fs, h0, h⟩ := xs_some h
          have e1 := xo_some h0
          obtain ⟨u0, ph7, h0, h⟩ := xb_some h
          refine px_cV1 rfl rfl e1 rfl rfl rfl rfl rfl rfl rfl (r_Row_putHighestFirst h0 :) (fun _ _ q => nomatch q.2) (fun r ph' q => ?_)
          obtain ⟨rfl, q⟩ := q
          cases q
          exact (r_Scribe_writeIndex_104 @hk54 @ih h :)
def f_Scribe_writeIndex_54 (F : Nat) (c : px_CT) : Nat → Nat → Nat → Nat → Int32 → Int32 → Int32 → px_H → Option (Unit × px_H)
  | 0, _, _, _, _, _, _, _ => none
  | n + 1, a0, a1, a2, a5, a6, a7, ph =>
    (xal ph 4 a2).bind fun t1 =>
    if t1 ≤ a7 then
      f_Scribe_writeIndex_149 F c a0 a1 a2 a5 ph
    else
      (xaN ph 4 a2 a7).bind fun t2 =>
      f_Scribe_writeIndex_70 F c (f_Scribe_writeIndex_54 F c n) F a0 a1 a2 a5 a6 a7 t2 (nI 1) ph
theorem r_Scribe_writeIndex_54 {l : Launch} {g : px_G} {d F : Nat} : ∀ (n : Nat) {a0 : Nat} {a1 : Nat} {a2 : Nat} {a5 : Int32} {a6 : Int32} {a7 : Int32} {ph : px_H} {r : Unit} {ph' : px_H}, f_Scribe_writeIndex_54 F (px_ct g) n a0 a1 a2 a5 a6 a7 ph = some (r, ph') → PW l g (d + 5) m_Scribe_writeIndex 54 [.ref a0, .ref a1, .ref a2, px_u, px_u, .int a5, .int a6, .int a7, px_u, px_u] [] ph (px_qV r ph') := by
  intro n
  induction n with
  | zero => intro _ _ _ _ _ _ _ _ _ h; cases h
  | succ n ih =>
    intro a0 a1 a2 a5 a6 a7 ph r ph' h
    unfold f_Scribe_writeIndex_54 at h
    refine px_ld rfl rfl rfl rfl rfl ?_
    refine px_ld rfl rfl rfl rfl rfl ?_
    obtain ⟨t1, h0, h⟩ := xs_some h
    obtain ⟨x, e1, e3⟩ := xal_some h0
    subst e3
    refine px_alen rfl e1 rfl rfl ?_
    refine px_icge rfl (by decide) rfl (fun hc => ?_) (fun hc => ?_)
    · replace h := (if_pos hc).symm.trans h
      refine px_forget (n := 6) (lv' := [_, _, _, _, _, _, _, _, _, _]) rfl ?_
      refine px_forget (n := 7) (lv' := [_, _, _, _, _, _, _, _, _, _]) rfl ?_
      exact (r_Scribe_writeIndex_149 h :)
    · replace h := (if_neg hc).symm.trans h
      refine px_ld rfl rfl rfl rfl rfl ?_
      refine px_ld rfl rfl rfl rfl rfl ?_
      obtain ⟨t2, h0, h⟩ := xs_some h
      obtain ⟨N, f, e1, e2, e3⟩ := xaN_some h0
      refine px_aaldO rfl e1 rfl e2 e3 rfl ?_
      refine px_st (lv' := [.ref a0, .ref a1, .ref a2, px_u, px_u, .int a5, .int a6, .int a7, va_rf t2, px_u]) rfl rfl (by first | rfl | (cases t2 <;> rfl)) (by first | rfl | (cases t2 <;> rfl)) rfl (by first | rfl | (cases t2 <;> rfl)) rfl ?_
      refine px_ic (k := 1) rfl rfl rfl ?_
      refine px_st (lv' := [.ref a0, .ref a1, .ref a2, px_u, px_u, .int a5, .int a6, .int a7, va_rf t2, .int (nI 1)]) rfl rfl rfl rfl (by first | rfl | (cases t2 <;> rfl)) rfl rfl ?_
      exact (r_Scribe_writeIndex_70 @ih _ h :)
def f_Scribe_writeIndex (F : Nat) (c : px_CT) (a0 : Nat) (a1 : Nat) (a2 : Nat) (a3 : Int32) (a4 : Int32) (ph : px_H) : Option (Unit × px_H) :=
  (xo ph 10 a1).bind fun _ =>
  xb (f_Row_put F c a1 (nI 1) ((47 : Int64)) ph) fun _ ph1 =>
  (xgI ph1 10 1 a1).bind fun t2 =>
  xb (f_Scribe_writeAhead F c a1 (((nI 4) + ((nI 4) * a3)) + a4) (t2 - (nI 1)) ph1) fun _ ph3 =>
  (xo ph3 10 a1).bind fun _ =>
  xb (f_Row_putHighestFirst F c a1 a3 ph3) fun _ ph4 =>
  (xgI ph4 10 1 a1).bind fun t5 =>
  f_Scribe_writeIndex_54 F c F a0 a1 a2 (((nI 4) + ((nI 4) * a3)) + a4) (((t5 - (nI 4)) + (((nI 4) + ((nI 4) * a3)) + a4)) + ((((nI 4) + ((nI 4) * a3)) + a4) &&& (nI 1))) (nI 0) ph4
theorem r_Scribe_writeIndex {l : Launch} {g : px_G} {d F : Nat} {a0 : Nat} {a1 : Nat} {a2 : Nat} {a3 : Int32} {a4 : Int32} {ph : px_H} {r : Unit} {ph' : px_H} (h : f_Scribe_writeIndex F (px_ct g) a0 a1 a2 a3 a4 ph = some (r, ph')) : PW l g (d + 5) m_Scribe_writeIndex 0 [.ref a0, .ref a1, .ref a2, .int a3, .int a4, px_u, px_u, px_u, px_u, px_u] [] ph (px_qV r ph') := by
  unfold f_Scribe_writeIndex at h
  refine px_ic (k := 4) rfl rfl rfl ?_
  refine px_ic (k := 4) rfl rfl rfl ?_
  refine px_ld rfl rfl rfl rfl rfl ?_
  refine px_alu rfl rfl rfl ?_
  refine px_alu rfl rfl rfl ?_
  refine px_ld rfl rfl rfl rfl rfl ?_
  refine px_alu rfl rfl rfl ?_
  refine px_st (lv' := [_, _, _, _, _, _, _, _, _, _]) rfl rfl rfl rfl rfl rfl rfl ?_
  refine px_ld rfl rfl rfl rfl rfl ?_
  refine px_ic (k := 1) rfl rfl rfl ?_
  refine px_ldc2 rfl rfl rfl ?_
  obtain ⟨fs, h0, h⟩ := xs_some h
  have e1 := xo_some h0
  obtain ⟨u0, ph1, h0, h⟩ := xb_some h
  refine px_cV2 rfl rfl e1 rfl rfl rfl rfl rfl rfl rfl (r_Row_put h0 :) (fun _ _ q => nomatch q.2) (fun r ph' q => ?_)
  obtain ⟨rfl, q⟩ := q
  cases q
  refine px_ld rfl rfl rfl rfl rfl ?_
  refine px_ld rfl rfl rfl rfl rfl ?_
  refine px_ld rfl rfl rfl rfl rfl ?_
  obtain ⟨t2, h0, h⟩ := xs_some h
  obtain ⟨fs, e1, e2⟩ := xgI_some h0
  refine px_get rfl e1 e2 rfl ?_
  refine px_ic (k := 1) rfl rfl rfl ?_
  refine px_alu rfl rfl rfl ?_
  obtain ⟨u0, ph3, h0, h⟩ := xb_some h
  refine px_cS3 rfl rfl rfl rfl rfl rfl rfl (r_Scribe_writeAhead h0 :) (fun _ _ q => nomatch q.2) (fun r ph' q => ?_)
  obtain ⟨rfl, q⟩ := q
  cases q
  refine px_ld rfl rfl rfl rfl rfl ?_
  refine px_ld rfl rfl rfl rfl rfl ?_
  obtain ⟨fs, h0, h⟩ := xs_some h
  have e1 := xo_some h0
  obtain ⟨u0, ph4, h0, h⟩ := xb_some h
  refine px_cV1 rfl rfl e1 rfl rfl rfl rfl rfl rfl rfl (r_Row_putHighestFirst h0 :) (fun _ _ q => nomatch q.2) (fun r ph' q => ?_)
  obtain ⟨rfl, q⟩ := q
  cases q
  refine px_ld rfl rfl rfl rfl rfl ?_
  obtain ⟨t5, h0, h⟩ := xs_some h
  obtain ⟨fs, e1, e2⟩ := xgI_some h0
  refine px_get rfl e1 e2 rfl ?_
  refine px_ic (k := 4) rfl rfl rfl ?_
  refine px_alu rfl rfl rfl ?_
  refine px_ld rfl rfl rfl rfl rfl ?_
  refine px_alu rfl rfl rfl ?_
  refine px_ld rfl rfl rfl rfl rfl ?_
  refine px_ic (k := 1) rfl rfl rfl ?_
  refine px_alu rfl rfl rfl ?_
  refine px_alu rfl rfl rfl ?_
  refine px_st (lv' := [_, _, _, _, _, _, _, _, _, _]) rfl rfl rfl rfl rfl rfl rfl ?_
  refine px_ic (k := 0) rfl rfl rfl ?_
  refine px_st (lv' := [_, _, _, _, _, _, _, _, _, _]) rfl rfl rfl rfl rfl rfl rfl ?_
  refine px_forget (n := 3) (lv' := [_, _, _, _, _, _, _, _, _, _]) rfl ?_
  refine px_forget (n := 4) (lv' := [_, _, _, _, _, _, _, _, _, _]) rfl ?_
  exact (r_Scribe_writeIndex_54 _ h :)
def f_Scribe_writeObjects_118 (F : Nat) (c : px_CT) (ph : px_H) : Option (Unit × px_H) :=
  some ((), ph)
theorem r_Scribe_writeObjects_118 {l : Launch} {g : px_G} {d F : Nat} {ph : px_H} {r : Unit} {ph' : px_H} (h : f_Scribe_writeObjects_118 F (px_ct g) ph = some (r, ph')) : PW l g (d + 5) m_Scribe_writeObjects 118 [px_u, px_u, px_u, px_u, px_u, px_u, px_u] [] ph (px_qV r ph') := by
  unfold f_Scribe_writeObjects_118 at h
  cases h
  exact px_vret rfl rfl rfl ⟨rfl, rfl⟩
def f_Scribe_writeObjects_112 (F : Nat) (c : px_CT) (k5 : Nat → Nat → Nat → Int32 → Int32 → px_H → Option (Unit × px_H)) (a0 : Nat) (a1 : Nat) (a2 : Nat) (a3 : Int32) (a4 : Int32) (ph : px_H) : Option (Unit × px_H) :=
  k5 a0 a1 a2 a3 (a4 + nI 1) ph
theorem r_Scribe_writeObjects_112 {l : Launch} {g : px_G} {d F : Nat} {k5 : Nat → Nat → Nat → Int32 → Int32 → px_H → Option (Unit × px_H)} (hk5 : ∀ {a0 : Nat} {a1 : Nat} {a2 : Nat} {a3 : Int32} {a4 : Int32} {ph : px_H} {r : Unit} {ph' : px_H}, k5 a0 a1 a2 a3 a4 ph = some (r, ph') → PW l g (d + 5) m_Scribe_writeObjects 5 [.ref a0, .ref a1, .ref a2, .int a3, .int a4, px_u, px_u] [] ph (px_qV r ph')) {a0 : Nat} {a1 : Nat} {a2 : Nat} {a3 : Int32} {a4 : Int32} {ph : px_H} {r : Unit} {ph' : px_H} (h : f_Scribe_writeObjects_112 F (px_ct g) k5 a0 a1 a2 a3 a4 ph = some (r, ph')) : PW l g (d + 5) m_Scribe_writeObjects 112 [.ref a0, .ref a1, .ref a2, .int a3, .int a4, px_u, px_u] [] ph (px_qV r ph') := by
  unfold f_Scribe_writeObjects_112 at h
  refine px_iinc (lv' := [_, _, _, _, _, _, _]) rfl rfl rfl rfl rfl rfl ?_
  refine px_goto rfl (by decide) rfl ?_
  exact (hk5 h :)
def f_Scribe_writeObjects_109 (F : Nat) (c : px_CT) (k5 : Nat → Nat → Nat → Int32 → Int32 → px_H → Option (Unit × px_H)) (a0 : Nat) (a1 : Nat) (a2 : Nat) (a3 : Int32) (a4 : Int32) (ph : px_H) : Option (Unit × px_H) :=
  f_Scribe_writeObjects_112 F c k5 a0 a1 a2 (a3 + nI 1) a4 ph
theorem r_Scribe_writeObjects_109 {l : Launch} {g : px_G} {d F : Nat} {k5 : Nat → Nat → Nat → Int32 → Int32 → px_H → Option (Unit × px_H)} (hk5 : ∀ {a0 : Nat} {a1 : Nat} {a2 : Nat} {a3 : Int32} {a4 : Int32} {ph : px_H} {r : Unit} {ph' : px_H}, k5 a0 a1 a2 a3 a4 ph = some (r, ph') → PW l g (d + 5) m_Scribe_writeObjects 5 [.ref a0, .ref a1, .ref a2, .int a3, .int a4, px_u, px_u] [] ph (px_qV r ph')) {a0 : Nat} {a1 : Nat} {a2 : Nat} {a3 : Int32} {a4 : Int32} {ph : px_H} {r : Unit} {ph' : px_H} (h : f_Scribe_writeObjects_109 F (px_ct g) k5 a0 a1 a2 a3 a4 ph = some (r, ph')) : PW l g (d + 5) m_Scribe_writeObjects 109 [.ref a0, .ref a1, .ref a2, .int a3, .int a4, px_u, px_u] [] ph (px_qV r ph') := by
  unfold f_Scribe_writeObjects_109 at h
  refine px_iinc (lv' := [_, _, _, _, _, _, _]) rfl rfl rfl rfl rfl rfl ?_
  exact (r_Scribe_writeObjects_112 @hk5 h :)
def f_Scribe_writeObjects_5 (F : Nat) (c : px_CT) : Nat → Nat → Nat → Nat → Int32 → Int32 → px_H → Option (Unit × px_H)
  | 0, _, _, _, _, _, _ => none
  | n + 1, a0, a1, a2, a3, a4, ph =>
    (xal ph 4 a2).bind fun t1 =>
    if t1 ≤ a4 then
      f_Scribe_writeObjects_118 F c ph
    else
      (xaN ph 4 a2 a4).bind fun t2 =>
      xb (f_Scribe_isObject F c t2 ph) fun t3 ph4 =>
      if t3 = 0 then
        f_Scribe_writeObjects_112 F c (f_Scribe_writeObjects_5 F c n) a0 a1 a2 a3 a4 ph4
      else
        (xgI ph4 10 1 a1).bind fun t5 =>
        (xo ph4 10 a1).bind fun _ =>
        xb (f_Row_put F c a1 (nI 1) ((111 : Int64)) ph4) fun _ ph6 =>
        (xo ph6 10 a1).bind fun _ =>
        xb (f_Row_put F c a1 (nI 1) (((nI 48) + a3).toInt64) ph6) fun _ ph7 =>
        (xo ph7 10 a1).bind fun _ =>
        xb (f_Row_put F c a1 (nI 1) ((47 : Int64)) ph7) fun _ ph8 =>
        (t2).bind fun p9 =>
        (xgI ph8 7 6 p9).bind fun t10 =>
        xb (f_Scribe_writeAhead F c a1 t10 t5 ph8) fun _ ph11 =>
        (xgR ph11 11 2 a0).bind fun t12 =>
        (xgR ph11 10 0 t12).bind fun t13 =>
        (xgI ph11 7 5 p9).bind fun t14 =>
        (xgI ph11 7 6 p9).bind fun t15 =>
        (xo ph11 10 a1).bind fun _ =>
        xb (f_Row_copy F c a1 t13 t14 t15 ph11) fun _ ph16 =>
        (xgI ph16 7 6 p9).bind fun t17 =>
        if (t17 &&& (nI 1)) = (nI 1) then
          (xo ph16 10 a1).bind fun _ =>
          xb (f_Row_put F c a1 (nI 1) ((10 : Int64)) ph16) fun _ ph18 =>
          f_Scribe_writeObjects_109 F c (f_Scribe_writeObjects_5 F c n) a0 a1 a2 a3 a4 ph18
        else
          f_Scribe_writeObjects_109 F c (f_Scribe_writeObjects_5 F c n) a0 a1 a2 a3 a4 ph16
theorem r_Scribe_writeObjects_5 {l : Launch} {g : px_G} {d F : Nat} : ∀ (n : Nat) {a0 : Nat} {a1 : Nat} {a2 : Nat} {a3 : Int32} {a4 : Int32} {ph : px_H} {r : Unit} {ph' : px_H}, f_Scribe_writeObjects_5 F (px_ct g) n a0 a1 a2 a3 a4 ph = some (r, ph') → PW l g (d + 5) m_Scribe_writeObjects 5 [.ref a0, .ref a1, .ref a2, .int a3, .int a4, px_u, px_u] [] ph (px_qV r ph') := by
  intro n
  induction n with
  | zero => intro _ _ _ _ _ _ _ _ h; cases h
  | succ n ih =>
    intro a0 a1 a2 a3 a4 ph r ph' h
    unfold f_Scribe_writeObjects_5 at h
    refine px_ld rfl rfl rfl rfl rfl ?_
    refine px_ld rfl rfl rfl rfl rfl ?_
    obtain ⟨t1, h0, h⟩ := xs_some h
    obtain ⟨x, e1, e3⟩ := xal_some h0
    subst e3
    refine px_alen rfl e1 rfl rfl ?_
    refine px_icge rfl (by decide) rfl (fun hc => ?_) (fun hc => ?_)
    · replace h := (if_pos hc).symm.trans h
      refine px_forget (n := 0) (lv' := [_, _, _, _, _, _, _]) rfl ?_
      refine px_forget (n := 1) (lv' := [_, _, _, _, _, _, _]) rfl ?_
      refine px_forget (n := 2) (lv' := [_, _, _, _, _, _, _]) rfl ?_
      refine px_forget (n := 3) (lv' := [_, _, _, _, _, _, _]) rfl ?_
      refine px_forget (n := 4) (lv' := [_, _, _, _, _, _, _]) rfl ?_
      exact (r_Scribe_writeObjects_118 h :)
    · replace h := (if_neg hc).symm.trans h
      refine px_ld rfl rfl rfl rfl rfl ?_
      refine px_ld rfl rfl rfl rfl rfl ?_
      obtain ⟨t2, h0, h⟩ := xs_some h
      obtain ⟨N, f, e1, e2, e3⟩ := xaN_some h0
      refine px_aaldO rfl e1 rfl e2 e3 rfl ?_
      refine px_st (lv' := [.ref a0, .ref a1, .ref a2, .int a3, .int a4, va_rf t2, px_u]) rfl rfl (by first | rfl | (cases t2 <;> rfl)) (by first | rfl | (cases t2 <;> rfl)) rfl (by first | rfl | (cases t2 <;> rfl)) rfl ?_
      refine px_ld rfl rfl rfl (by first | rfl | (cases t2 <;> rfl)) rfl ?_
      obtain ⟨t3, ph4, h0, h⟩ := xb_some h
      refine px_cS1 (lv0 := [va_rf t2]) rfl rfl rfl (by first | rfl | (cases t2 <;> rfl)) rfl (by first | rfl | (cases t2 <;> rfl)) rfl (r_Scribe_isObject h0 :) (fun _ _ q => nomatch q.2) (fun r ph' q => ?_)
      obtain ⟨rfl, q⟩ := q
      cases q
      refine px_ifeq rfl (by decide) rfl (fun hc => ?_) (fun hc => ?_)
      · replace h := (if_pos hc).symm.trans h
        refine px_forget (n := 5) (lv' := [_, _, _, _, _, _, _]) rfl ?_
        exact (r_Scribe_writeObjects_112 @ih h :)
      · replace h := (if_neg hc).symm.trans h
        refine px_ld rfl rfl rfl rfl rfl ?_
        obtain ⟨t5, h0, h⟩ := xs_some h
        obtain ⟨fs, e1, e2⟩ := xgI_some h0
        refine px_get rfl e1 e2 rfl ?_
        refine px_st (lv' := [.ref a0, .ref a1, .ref a2, .int a3, .int a4, va_rf t2, .int t5]) rfl rfl rfl rfl (by first | rfl | (cases t2 <;> rfl)) rfl rfl ?_
        refine px_ld rfl rfl rfl rfl rfl ?_
        refine px_ic (k := 1) rfl rfl rfl ?_
        refine px_ldc2 rfl rfl rfl ?_
        obtain ⟨fs, h0, h⟩ := xs_some h
        have e1 := xo_some h0
        obtain ⟨u0, ph6, h0, h⟩ := xb_some h
        refine px_cV2 rfl rfl e1 rfl rfl rfl rfl rfl rfl rfl (r_Row_put h0 :) (fun _ _ q => nomatch q.2) (fun r ph' q => ?_)
        obtain ⟨rfl, q⟩ := q
        cases q
        refine px_ld rfl rfl rfl rfl rfl ?_
        refine px_ic (k := 1) rfl rfl rfl ?_
        refine px_ic (k := 48) rfl rfl rfl ?_
        refine px_ld rfl rfl rfl rfl rfl ?_
        refine px_alu rfl rfl rfl ?_
        refine px_alu rfl rfl rfl ?_
        obtain ⟨fs, h0, h⟩ := xs_some h
        have e1 := xo_some h0
        obtain ⟨u0, ph7, h0, h⟩ := xb_some h
        refine px_cV2 rfl rfl e1 rfl rfl rfl rfl rfl rfl rfl (r_Row_put h0 :) (fun _ _ q => nomatch q.2) (fun r ph' q => ?_)
        obtain ⟨rfl, q⟩ := q
        cases q
        refine px_ld rfl rfl rfl rfl rfl ?_
        refine px_ic (k := 1) rfl rfl rfl ?_
        refine px_ldc2 rfl rfl rfl ?_
        obtain ⟨fs, h0, h⟩ := xs_some h
        have e1 := xo_some h0
        obtain ⟨u0, ph8, h0, h⟩ := xb_some h
        refine px_cV2 rfl rfl e1 rfl rfl rfl rfl rfl rfl rfl (r_Row_put h0 :) (fun _ _ q => nomatch q.2) (fun r ph' q => ?_)
        obtain ⟨rfl, q⟩ := q
        cases q
        refine px_ld rfl rfl rfl rfl rfl ?_
        refine px_ld rfl rfl rfl (by first | rfl | (cases t2 <;> rfl)) rfl ?_
        obtain ⟨p9, h0, h⟩ := xs_some h
        revert h
        subst h0
        intro h
        obtain ⟨t10, h0, h⟩ := xs_some h
        obtain ⟨fs, e1, e2⟩ := xgI_some h0
        refine px_get rfl e1 e2 rfl ?_
        refine px_ld rfl rfl rfl rfl rfl ?_
        obtain ⟨u0, ph11, h0, h⟩ := xb_some h
        refine px_cS3 rfl rfl rfl rfl rfl rfl rfl (r_Scribe_writeAhead h0 :) (fun _ _ q => nomatch q.2) (fun r ph' q => ?_)
        obtain ⟨rfl, q⟩ := q
        cases q
        refine px_ld rfl rfl rfl rfl rfl ?_
        refine px_ld rfl rfl rfl rfl rfl ?_
        obtain ⟨t12, h0, h⟩ := xs_some h
        obtain ⟨fs, e1, e2⟩ := xgR_some h0
        refine px_get rfl e1 e2 rfl ?_
        obtain ⟨t13, h0, h⟩ := xs_some h
        obtain ⟨fs, e1, e2⟩ := xgR_some h0
        refine px_get rfl e1 e2 rfl ?_
        refine px_ld rfl rfl rfl rfl rfl ?_
        obtain ⟨t14, h0, h⟩ := xs_some h
        obtain ⟨fs, e1, e2⟩ := xgI_some h0
        refine px_get rfl e1 e2 rfl ?_
        refine px_ld rfl rfl rfl rfl rfl ?_
        obtain ⟨t15, h0, h⟩ := xs_some h
        obtain ⟨fs, e1, e2⟩ := xgI_some h0
        refine px_get rfl e1 e2 rfl ?_
        obtain ⟨fs, h0, h⟩ := xs_some h
        have e1 := xo_some h0
        obtain ⟨u0, ph16, h0, h⟩ := xb_some h
        refine px_cV3 rfl rfl e1 rfl rfl rfl rfl rfl rfl rfl (r_Row_copy h0 :) (fun _ _ q => nomatch q.2) (fun r ph' q => ?_)
        obtain ⟨rfl, q⟩ := q
        cases q
        refine px_ld rfl rfl rfl rfl rfl ?_
        obtain ⟨t17, h0, h⟩ := xs_some h
        obtain ⟨fs, e1, e2⟩ := xgI_some h0
        refine px_get rfl e1 e2 rfl ?_
        refine px_ic (k := 1) rfl rfl rfl ?_
        refine px_alu rfl rfl rfl ?_
        refine px_ic (k := 1) rfl rfl rfl ?_
        refine px_icne rfl (by decide) rfl (fun hc => ?_) (fun hc => ?_)
        · replace h := (if_neg hc).symm.trans h
          refine px_forget (n := 5) (lv' := [_, _, _, _, _, _, _]) rfl ?_
          refine px_forget (n := 6) (lv' := [_, _, _, _, _, _, _]) rfl ?_
          exact (r_Scribe_writeObjects_109 @ih h :)
        · replace h := (if_pos hc).symm.trans h
          refine px_ld rfl rfl rfl rfl rfl ?_
          refine px_ic (k := 1) rfl rfl rfl ?_
          refine px_ldc2 rfl rfl rfl ?_
          obtain ⟨fs, h0, h⟩ := xs_some h
          have e1 := xo_some h0
          obtain ⟨u0, ph18, h0, h⟩ := xb_some h
          refine px_cV2 rfl rfl e1 rfl rfl rfl rfl rfl rfl rfl (r_Row_put h0 :) (fun _ _ q => nomatch q.2) (fun r ph' q => ?_)
          obtain ⟨rfl, q⟩ := q
          cases q
          refine px_forget (n := 5) (lv' := [_, _, _, _, _, _, _]) rfl ?_
          refine px_forget (n := 6) (lv' := [_, _, _, _, _, _, _]) rfl ?_
          exact (r_Scribe_writeObjects_109 @ih h :)
def f_Scribe_writeObjects (F : Nat) (c : px_CT) (a0 : Nat) (a1 : Nat) (a2 : Nat) (ph : px_H) : Option (Unit × px_H) :=
  f_Scribe_writeObjects_5 F c F a0 a1 a2 (nI 0) (nI 0) ph
theorem r_Scribe_writeObjects {l : Launch} {g : px_G} {d F : Nat} {a0 : Nat} {a1 : Nat} {a2 : Nat} {ph : px_H} {r : Unit} {ph' : px_H} (h : f_Scribe_writeObjects F (px_ct g) a0 a1 a2 ph = some (r, ph')) : PW l g (d + 5) m_Scribe_writeObjects 0 [.ref a0, .ref a1, .ref a2, px_u, px_u, px_u, px_u] [] ph (px_qV r ph') := by
  unfold f_Scribe_writeObjects at h
  refine px_ic (k := 0) rfl rfl rfl ?_
  refine px_st (lv' := [_, _, _, _, _, _, _]) rfl rfl rfl rfl rfl rfl rfl ?_
  refine px_ic (k := 0) rfl rfl rfl ?_
  refine px_st (lv' := [_, _, _, _, _, _, _]) rfl rfl rfl rfl rfl rfl rfl ?_
  exact (r_Scribe_writeObjects_5 _ h :)
def f_Scribe_writePacked_168 (F : Nat) (c : px_CT) (s0 : Int32) (ph : px_H) : Option (Int32 × px_H) :=
  xz s0 ph
theorem r_Scribe_writePacked_168 {l : Launch} {g : px_G} {d F : Nat} {s0 : Int32} {ph : px_H} {r : Int32} {ph' : px_H} (h : f_Scribe_writePacked_168 F (px_ct g) s0 ph = some (r, ph')) : PW l g (d + 6) m_Scribe_writePacked 168 [px_u, px_u, px_u, px_u, px_u, px_u, px_u, px_u, px_u] [.int s0] ph (px_qI r ph') := by
  unfold f_Scribe_writePacked_168 at h
  obtain ⟨e0, e1, e2⟩ := xz_some h
  subst e1 e2
  exact px_iret rfl (Or.inr ⟨rfl, e0⟩) rfl ⟨rfl, rfl⟩
def f_Scribe_writePacked_167 (F : Nat) (c : px_CT) (ph : px_H) : Option (Int32 × px_H) :=
  f_Scribe_writePacked_168 F c (nI 0) ph
theorem r_Scribe_writePacked_167 {l : Launch} {g : px_G} {d F : Nat} {ph : px_H} {r : Int32} {ph' : px_H} (h : f_Scribe_writePacked_167 F (px_ct g) ph = some (r, ph')) : PW l g (d + 6) m_Scribe_writePacked 167 [px_u, px_u, px_u, px_u, px_u, px_u, px_u, px_u, px_u] [] ph (px_qI r ph') := by
  unfold f_Scribe_writePacked_167 at h
  refine px_ic (k := 0) rfl rfl rfl ?_
  exact (r_Scribe_writePacked_168 h :)
def f_Scribe_writePacked_111 (F : Nat) (c : px_CT) (a0 : Nat) (a1 : Nat) (a2 : Nat) (a3 : Int32) (a4 : Int32) (a5 : Int32) (ph : px_H) : Option (Int32 × px_H) :=
  if a3 ≤ (nI 7) then
    (xo ph 10 a1).bind fun _ =>
    xb (f_Row_clear F c a1 ph) fun _ ph1 =>
    (xo ph1 10 a1).bind fun _ =>
    xb (f_Row_putAll F c a1 1 ph1) fun _ ph2 =>
    (xo ph2 11 a0).bind fun _ =>
    xb (f_Scribe_writeIndex F c a0 a1 a2 a4 a5 ph2) fun _ ph3 =>
    (xo ph3 11 a0).bind fun _ =>
    xb (f_Scribe_writeObjects F c a0 a1 a2 ph3) fun _ ph4 =>
    (xgI ph4 10 2 a1).bind fun t5 =>
    if t5 = 0 then
      (xgI ph4 10 1 a1).bind fun t6 =>
      if (nI 8192) < t6 then
        f_Scribe_writePacked_167 F c ph4
      else
        f_Scribe_writePacked_168 F c (nI 1) ph4
    else
      f_Scribe_writePacked_167 F c ph4
  else
    some (nI 0, ph)
theorem r_Scribe_writePacked_111 {l : Launch} {g : px_G} {d F : Nat} {a0 : Nat} {a1 : Nat} {a2 : Nat} {a3 : Int32} {a4 : Int32} {a5 : Int32} {ph : px_H} {r : Int32} {ph' : px_H} (h : f_Scribe_writePacked_111 F (px_ct g) a0 a1 a2 a3 a4 a5 ph = some (r, ph')) : PW l g (d + 6) m_Scribe_writePacked 111 [.ref a0, .ref a1, .ref a2, .int a3, .int a4, .int a5, px_u, px_u, px_u] [] ph (px_qI r ph') := by
  unfold f_Scribe_writePacked_111 at h
  refine px_ld rfl rfl rfl rfl rfl ?_
  refine px_ic (k := 7) rfl rfl rfl ?_
  refine px_icle rfl (by decide) rfl (fun hc => ?_) (fun hc => ?_)
  · replace h := (if_pos hc).symm.trans h
    refine px_ld rfl rfl rfl rfl rfl ?_
    obtain ⟨fs, h0, h⟩ := xs_some h
    have e1 := xo_some h0
    obtain ⟨u0, ph1, h0, h⟩ := xb_some h
    refine px_cV0 rfl rfl e1 rfl rfl rfl rfl rfl rfl rfl (r_Row_clear h0 :) (fun _ _ q => nomatch q.2) (fun r ph' q => ?_)
    obtain ⟨rfl, q⟩ := q
    cases q
    refine px_ld rfl rfl rfl rfl rfl ?_
    refine px_gets rfl rfl ?_
    obtain ⟨fs, h0, h⟩ := xs_some h
    have e1 := xo_some h0
    obtain ⟨u0, ph2, h0, h⟩ := xb_some h
    refine px_cV1 rfl rfl e1 rfl rfl rfl rfl rfl rfl rfl (r_Row_putAll h0 :) (fun _ _ q => nomatch q.2) (fun r ph' q => ?_)
    obtain ⟨rfl, q⟩ := q
    cases q
    refine px_ld rfl rfl rfl rfl rfl ?_
    refine px_ld rfl rfl rfl rfl rfl ?_
    refine px_ld rfl rfl rfl rfl rfl ?_
    refine px_ld rfl rfl rfl rfl rfl ?_
    refine px_ld rfl rfl rfl rfl rfl ?_
    obtain ⟨fs, h0, h⟩ := xs_some h
    have e1 := xo_some h0
    obtain ⟨u0, ph3, h0, h⟩ := xb_some h
    refine px_cV4 rfl rfl e1 rfl rfl rfl rfl rfl rfl rfl (r_Scribe_writeIndex h0 :) (fun _ _ q => nomatch q.2) (fun r ph' q => ?_)
    obtain ⟨rfl, q⟩ := q
    cases q
    refine px_ld rfl rfl rfl rfl rfl ?_
    refine px_ld rfl rfl rfl rfl rfl ?_
    refine px_ld rfl rfl rfl rfl rfl ?_
    obtain ⟨fs, h0, h⟩ := xs_some h
    have e1 := xo_some h0
    obtain ⟨u0, ph4, h0, h⟩ := xb_some h
    refine px_cV2 rfl rfl e1 rfl rfl rfl rfl rfl rfl rfl (r_Scribe_writeObjects h0 :) (fun _ _ q => nomatch q.2) (fun r ph' q => ?_)
    obtain ⟨rfl, q⟩ := q
    cases q
    refine px_ld rfl rfl rfl rfl rfl ?_
    obtain ⟨t5, h0, h⟩ := xs_some h
    obtain ⟨fs, e1, e2⟩ := xgI_some h0
    refine px_get rfl e1 e2 rfl ?_
    refine px_ifne rfl (by decide) rfl (fun hc => ?_) (fun hc => ?_)
    · replace h := (if_neg hc).symm.trans h
      refine px_forget (n := 0) (lv' := [_, _, _, _, _, _, _, _, _]) rfl ?_
      refine px_forget (n := 1) (lv' := [_, _, _, _, _, _, _, _, _]) rfl ?_
      refine px_forget (n := 2) (lv' := [_, _, _, _, _, _, _, _, _]) rfl ?_
      refine px_forget (n := 3) (lv' := [_, _, _, _, _, _, _, _, _]) rfl ?_
      refine px_forget (n := 4) (lv' := [_, _, _, _, _, _, _, _, _]) rfl ?_
      refine px_forget (n := 5) (lv' := [_, _, _, _, _, _, _, _, _]) rfl ?_
      exact (r_Scribe_writePacked_167 h :)
    · replace h := (if_pos hc).symm.trans h
      refine px_ld rfl rfl rfl rfl rfl ?_
      obtain ⟨t6, h0, h⟩ := xs_some h
      obtain ⟨fs, e1, e2⟩ := xgI_some h0
      refine px_get rfl e1 e2 rfl ?_
      refine px_ic (k := 8192) rfl rfl rfl ?_
      refine px_icgt rfl (by decide) rfl (fun hc => ?_) (fun hc => ?_)
      · replace h := (if_pos hc).symm.trans h
        refine px_forget (n := 0) (lv' := [_, _, _, _, _, _, _, _, _]) rfl ?_
        refine px_forget (n := 1) (lv' := [_, _, _, _, _, _, _, _, _]) rfl ?_
        refine px_forget (n := 2) (lv' := [_, _, _, _, _, _, _, _, _]) rfl ?_
        refine px_forget (n := 3) (lv' := [_, _, _, _, _, _, _, _, _]) rfl ?_
        refine px_forget (n := 4) (lv' := [_, _, _, _, _, _, _, _, _]) rfl ?_
        refine px_forget (n := 5) (lv' := [_, _, _, _, _, _, _, _, _]) rfl ?_
        exact (r_Scribe_writePacked_167 h :)
      · replace h := (if_neg hc).symm.trans h
        refine px_ic (k := 1) rfl rfl rfl ?_
        refine px_goto rfl (by decide) rfl ?_
        refine px_forget (n := 0) (lv' := [_, _, _, _, _, _, _, _, _]) rfl ?_
        refine px_forget (n := 1) (lv' := [_, _, _, _, _, _, _, _, _]) rfl ?_
        refine px_forget (n := 2) (lv' := [_, _, _, _, _, _, _, _, _]) rfl ?_
        refine px_forget (n := 3) (lv' := [_, _, _, _, _, _, _, _, _]) rfl ?_
        refine px_forget (n := 4) (lv' := [_, _, _, _, _, _, _, _, _]) rfl ?_
        refine px_forget (n := 5) (lv' := [_, _, _, _, _, _, _, _, _]) rfl ?_
        exact (r_Scribe_writePacked_168 h :)
  · replace h := (if_neg hc).symm.trans h
    refine px_ic (k := 0) rfl rfl rfl ?_
    cases h
    exact px_iret rfl (Or.inr ⟨rfl, Or.inl rfl⟩) rfl ⟨rfl, rfl⟩
def f_Scribe_writePacked_105 (F : Nat) (c : px_CT) (k11 : Nat → Nat → Nat → Int32 → Int32 → Int32 → Int32 → px_H → Option (Int32 × px_H)) (a0 : Nat) (a1 : Nat) (a2 : Nat) (a3 : Int32) (a4 : Int32) (a5 : Int32) (a6 : Int32) (ph : px_H) : Option (Int32 × px_H) :=
  k11 a0 a1 a2 a3 a4 a5 (a6 + nI 1) ph
theorem r_Scribe_writePacked_105 {l : Launch} {g : px_G} {d F : Nat} {k11 : Nat → Nat → Nat → Int32 → Int32 → Int32 → Int32 → px_H → Option (Int32 × px_H)} (hk11 : ∀ {a0 : Nat} {a1 : Nat} {a2 : Nat} {a3 : Int32} {a4 : Int32} {a5 : Int32} {a6 : Int32} {ph : px_H} {r : Int32} {ph' : px_H}, k11 a0 a1 a2 a3 a4 a5 a6 ph = some (r, ph') → PW l g (d + 6) m_Scribe_writePacked 11 [.ref a0, .ref a1, .ref a2, .int a3, .int a4, .int a5, .int a6, px_u, px_u] [] ph (px_qI r ph')) {a0 : Nat} {a1 : Nat} {a2 : Nat} {a3 : Int32} {a4 : Int32} {a5 : Int32} {a6 : Int32} {ph : px_H} {r : Int32} {ph' : px_H} (h : f_Scribe_writePacked_105 F (px_ct g) k11 a0 a1 a2 a3 a4 a5 a6 ph = some (r, ph')) : PW l g (d + 6) m_Scribe_writePacked 105 [.ref a0, .ref a1, .ref a2, .int a3, .int a4, .int a5, .int a6, px_u, px_u] [] ph (px_qI r ph') := by
  unfold f_Scribe_writePacked_105 at h
  refine px_iinc (lv' := [_, _, _, _, _, _, _, _, _]) rfl rfl rfl rfl rfl rfl ?_
  refine px_goto rfl (by decide) rfl ?_
  exact (hk11 h :)
def f_Scribe_writePacked_99 (F : Nat) (c : px_CT) (k11 : Nat → Nat → Nat → Int32 → Int32 → Int32 → Int32 → px_H → Option (Int32 × px_H)) (k38 : Nat → Nat → Nat → Int32 → Int32 → Int32 → Int32 → Option Nat → Int32 → px_H → Option (Int32 × px_H)) (a0 : Nat) (a1 : Nat) (a2 : Nat) (a3 : Int32) (a4 : Int32) (a5 : Int32) (a6 : Int32) (a7 : Option Nat) (a8 : Int32) (ph : px_H) : Option (Int32 × px_H) :=
  k38 a0 a1 a2 a3 a4 a5 a6 a7 (a8 + nI 1) ph
theorem r_Scribe_writePacked_99 {l : Launch} {g : px_G} {d F : Nat} {k11 : Nat → Nat → Nat → Int32 → Int32 → Int32 → Int32 → px_H → Option (Int32 × px_H)} (hk11 : ∀ {a0 : Nat} {a1 : Nat} {a2 : Nat} {a3 : Int32} {a4 : Int32} {a5 : Int32} {a6 : Int32} {ph : px_H} {r : Int32} {ph' : px_H}, k11 a0 a1 a2 a3 a4 a5 a6 ph = some (r, ph') → PW l g (d + 6) m_Scribe_writePacked 11 [.ref a0, .ref a1, .ref a2, .int a3, .int a4, .int a5, .int a6, px_u, px_u] [] ph (px_qI r ph')) {k38 : Nat → Nat → Nat → Int32 → Int32 → Int32 → Int32 → Option Nat → Int32 → px_H → Option (Int32 × px_H)} (hk38 : ∀ {a0 : Nat} {a1 : Nat} {a2 : Nat} {a3 : Int32} {a4 : Int32} {a5 : Int32} {a6 : Int32} {a7 : Option Nat} {a8 : Int32} {ph : px_H} {r : Int32} {ph' : px_H}, k38 a0 a1 a2 a3 a4 a5 a6 a7 a8 ph = some (r, ph') → PW l g (d + 6) m_Scribe_writePacked 38 [.ref a0, .ref a1, .ref a2, .int a3, .int a4, .int a5, .int a6, va_rf a7, .int a8] [] ph (px_qI r ph')) {a0 : Nat} {a1 : Nat} {a2 : Nat} {a3 : Int32} {a4 : Int32} {a5 : Int32} {a6 : Int32} {a7 : Option Nat} {a8 : Int32} {ph : px_H} {r : Int32} {ph' : px_H} (h : f_Scribe_writePacked_99 F (px_ct g) k11 k38 a0 a1 a2 a3 a4 a5 a6 a7 a8 ph = some (r, ph')) : PW l g (d + 6) m_Scribe_writePacked 99 [.ref a0, .ref a1, .ref a2, .int a3, .int a4, .int a5, .int a6, va_rf a7, .int a8] [] ph (px_qI r ph') := by
  unfold f_Scribe_writePacked_99 at h
  refine px_iinc (lv' := [_, _, _, _, _, _, _, _, _]) rfl rfl rfl (by first | rfl | (cases a7 <;> rfl)) rfl rfl ?_
  refine px_goto rfl (by decide) rfl ?_
  exact (hk38 h :)
def f_Scribe_writePacked_38 (F : Nat) (c : px_CT) (k11 : Nat → Nat → Nat → Int32 → Int32 → Int32 → Int32 → px_H → Option (Int32 × px_H)) : Nat → Nat → Nat → Nat → Int32 → Int32 → Int32 → Int32 → Option Nat → Int32 → px_H → Option (Int32 × px_H)
  | 0, _, _, _, _, _, _, _, _, _, _ => none
  | n + 1, a0, a1, a2, a3, a4, a5, a6, a7, a8, ph =>
    (a7).bind fun p1 =>
    (xgI ph 7 11 p1).bind fun t2 =>
    if t2 ≤ a8 then
      f_Scribe_writePacked_105 F c k11 a0 a1 a2 a3 a4 a5 a6 ph
    else
      (xo ph 7 p1).bind fun _ =>
      xb (f_ObjectFile_isDefining F c p1 a8 ph) fun t3 ph4 =>
      if t3 = 0 then
        f_Scribe_writePacked_99 F c k11 (f_Scribe_writePacked_38 F c k11 n) a0 a1 a2 a3 a4 a5 a6 (some p1) a8 ph4
      else
        (xgR ph4 11 0 a0).bind fun t5 =>
        (xgR ph4 3 11 t5).bind fun t6 =>
        (xgR ph4 11 2 a0).bind fun t7 =>
        (xo ph4 7 p1).bind fun _ =>
        xb (f_ObjectFile_nameStart F c p1 a8 ph4) fun t8 ph9 =>
        (xo ph9 5 t6).bind fun _ =>
        xb (f_Name_read F c t6 t7 t8 ph9) fun _ ph10 =>
        (xgR ph10 11 0 a0).bind fun t11 =>
        (xgR ph10 3 11 t11).bind fun t12 =>
        (xgI ph10 5 3 t12).bind fun t13 =>
        f_Scribe_writePacked_99 F c k11 (f_Scribe_writePacked_38 F c k11 n) a0 a1 a2 a3 (a4 + nI 1) (a5 + (t13 + (nI 1))) a6 (some p1) a8 ph10
theorem r_Scribe_writePacked_38 {l : Launch} {g : px_G} {d F : Nat} {k11 : Nat → Nat → Nat → Int32 → Int32 → Int32 → Int32 → px_H → Option (Int32 × px_H)} (hk11 : ∀ {a0 : Nat} {a1 : Nat} {a2 : Nat} {a3 : Int32} {a4 : Int32} {a5 : Int32} {a6 : Int32} {ph : px_H} {r : Int32} {ph' : px_H}, k11 a0 a1 a2 a3 a4 a5 a6 ph = some (r, ph') → PW l g (d + 6) m_Scribe_writePacked 11 [.ref a0, .ref a1, .ref a2, .int a3, .int a4, .int a5, .int a6, px_u, px_u] [] ph (px_qI r ph')) : ∀ (n : Nat) {a0 : Nat} {a1 : Nat} {a2 : Nat} {a3 : Int32} {a4 : Int32} {a5 : Int32} {a6 : Int32} {a7 : Option Nat} {a8 : Int32} {ph : px_H} {r : Int32} {ph' : px_H}, f_Scribe_writePacked_38 F (px_ct g) k11 n a0 a1 a2 a3 a4 a5 a6 a7 a8 ph = some (r, ph') → PW l g (d + 6) m_Scribe_writePacked 38 [.ref a0, .ref a1, .ref a2, .int a3, .int a4, .int a5, .int a6, va_rf a7, .int a8] [] ph (px_qI r ph') := by
  intro n
  induction n with
  | zero => intro _ _ _ _ _ _ _ _ _ _ _ _ h; cases h
  | succ n ih =>
    intro a0 a1 a2 a3 a4 a5 a6 a7 a8 ph r ph' h
    unfold f_Scribe_writePacked_38 at h
    refine px_ld rfl rfl rfl rfl rfl ?_
    refine px_ld rfl rfl rfl (by first | rfl | (cases a7 <;> rfl)) rfl ?_
    obtain ⟨p1, h0, h⟩ := xs_some h
    revert h
    subst h0
    intro h
    obtain ⟨t2, h0, h⟩ := xs_some h
    obtain ⟨fs, e1, e2⟩ := xgI_some h0
    refine px_get rfl e1 e2 rfl ?_
    refine px_icge rfl (by decide) rfl (fun hc => ?_) (fun hc => ?_)
    · replace h := (if_pos hc).symm.trans h
      refine px_forget (n := 7) (lv' := [_, _, _, _, _, _, _, _, _]) rfl ?_
      refine px_forget (n := 8) (lv' := [_, _, _, _, _, _, _, _, _]) rfl ?_
      exact (r_Scribe_writePacked_105 @hk11 h :)
    · replace h := (if_neg hc).symm.trans h
      refine px_ld rfl rfl rfl rfl rfl ?_
      refine px_ld rfl rfl rfl rfl rfl ?_
      obtain ⟨fs, h0, h⟩ := xs_some h
      have e1 := xo_some h0
      obtain ⟨t3, ph4, h0, h⟩ := xb_some h
      refine px_cV1 rfl rfl e1 rfl rfl rfl rfl rfl rfl rfl (r_ObjectFile_isDefining h0 :) (fun _ _ q => nomatch q.2) (fun r ph' q => ?_)
      obtain ⟨rfl, q⟩ := q
      cases q
      refine px_ifeq rfl (by decide) rfl (fun hc => ?_) (fun hc => ?_)
      · replace h := (if_pos hc).symm.trans h
        exact (r_Scribe_writePacked_99 @hk11 @ih h :)
      · replace h := (if_neg hc).symm.trans h
        refine px_ld rfl rfl rfl rfl rfl ?_
        obtain ⟨t5, h0, h⟩ := xs_some h
        obtain ⟨fs, e1, e2⟩ := xgR_some h0
        refine px_get rfl e1 e2 rfl ?_
        obtain ⟨t6, h0, h⟩ := xs_some h
        obtain ⟨fs, e1, e2⟩ := xgR_some h0
        refine px_get rfl e1 e2 rfl ?_
        refine px_ld rfl rfl rfl rfl rfl ?_
        obtain ⟨t7, h0, h⟩ := xs_some h
        obtain ⟨fs, e1, e2⟩ := xgR_some h0
        refine px_get rfl e1 e2 rfl ?_
        refine px_ld rfl rfl rfl rfl rfl ?_
        refine px_ld rfl rfl rfl rfl rfl ?_
        obtain ⟨fs, h0, h⟩ := xs_some h
        have e1 := xo_some h0
        obtain ⟨t8, ph9, h0, h⟩ := xb_some h
        refine px_cV1 rfl rfl e1 rfl rfl rfl rfl rfl rfl rfl (r_ObjectFile_nameStart h0 :) (fun _ _ q => nomatch q.2) (fun r ph' q => ?_)
        obtain ⟨rfl, q⟩ := q
        cases q
        obtain ⟨fs, h0, h⟩ := xs_some h
        have e1 := xo_some h0
        obtain ⟨u0, ph10, h0, h⟩ := xb_some h
        refine px_cV2 rfl rfl e1 rfl rfl rfl rfl rfl rfl rfl (r_Name_read h0 :) (fun _ _ q => nomatch q.2) (fun r ph' q => ?_)
        obtain ⟨rfl, q⟩ := q
        cases q
        refine px_iinc (lv' := [_, _, _, _, _, _, _, _, _]) rfl rfl rfl rfl rfl rfl ?_
        refine px_ld rfl rfl rfl rfl rfl ?_
        refine px_ld rfl rfl rfl rfl rfl ?_
        obtain ⟨t11, h0, h⟩ := xs_some h
        obtain ⟨fs, e1, e2⟩ := xgR_some h0
        refine px_get rfl e1 e2 rfl ?_
        obtain ⟨t12, h0, h⟩ := xs_some h
        obtain ⟨fs, e1, e2⟩ := xgR_some h0
        refine px_get rfl e1 e2 rfl ?_
        obtain ⟨t13, h0, h⟩ := xs_some h
        obtain ⟨fs, e1, e2⟩ := xgI_some h0
        refine px_get rfl e1 e2 rfl ?_
        refine px_ic (k := 1) rfl rfl rfl ?_
        refine px_alu rfl rfl rfl ?_
        refine px_alu rfl rfl rfl ?_
        refine px_st (lv' := [_, _, _, _, _, _, _, _, _]) rfl rfl rfl rfl rfl rfl rfl ?_
        exact (r_Scribe_writePacked_99 @hk11 @ih h :)
def f_Scribe_writePacked_11 (F : Nat) (c : px_CT) : Nat → Nat → Nat → Nat → Int32 → Int32 → Int32 → Int32 → px_H → Option (Int32 × px_H)
  | 0, _, _, _, _, _, _, _, _ => none
  | n + 1, a0, a1, a2, a3, a4, a5, a6, ph =>
    (xal ph 4 a2).bind fun t1 =>
    if t1 ≤ a6 then
      f_Scribe_writePacked_111 F c a0 a1 a2 a3 a4 a5 ph
    else
      (xaN ph 4 a2 a6).bind fun t2 =>
      xb (f_Scribe_isObject F c t2 ph) fun t3 ph4 =>
      if t3 = 0 then
        f_Scribe_writePacked_105 F c (f_Scribe_writePacked_11 F c n) a0 a1 a2 a3 a4 a5 a6 ph4
      else
        f_Scribe_writePacked_38 F c (f_Scribe_writePacked_11 F c n) F a0 a1 a2 (a3 + nI 1) a4 a5 a6 t2 (nI 1) ph4
theorem r_Scribe_writePacked_11 {l : Launch} {g : px_G} {d F : Nat} : ∀ (n : Nat) {a0 : Nat} {a1 : Nat} {a2 : Nat} {a3 : Int32} {a4 : Int32} {a5 : Int32} {a6 : Int32} {ph : px_H} {r : Int32} {ph' : px_H}, f_Scribe_writePacked_11 F (px_ct g) n a0 a1 a2 a3 a4 a5 a6 ph = some (r, ph') → PW l g (d + 6) m_Scribe_writePacked 11 [.ref a0, .ref a1, .ref a2, .int a3, .int a4, .int a5, .int a6, px_u, px_u] [] ph (px_qI r ph') := by
  intro n
  induction n with
  | zero => intro _ _ _ _ _ _ _ _ _ _ h; cases h
  | succ n ih =>
    intro a0 a1 a2 a3 a4 a5 a6 ph r ph' h
    unfold f_Scribe_writePacked_11 at h
    refine px_ld rfl rfl rfl rfl rfl ?_
    refine px_ld rfl rfl rfl rfl rfl ?_
    obtain ⟨t1, h0, h⟩ := xs_some h
    obtain ⟨x, e1, e3⟩ := xal_some h0
    subst e3
    refine px_alen rfl e1 rfl rfl ?_
    refine px_icge rfl (by decide) rfl (fun hc => ?_) (fun hc => ?_)
    · replace h := (if_pos hc).symm.trans h
      refine px_forget (n := 6) (lv' := [_, _, _, _, _, _, _, _, _]) rfl ?_
      exact (r_Scribe_writePacked_111 h :)
    · replace h := (if_neg hc).symm.trans h
      refine px_ld rfl rfl rfl rfl rfl ?_
      refine px_ld rfl rfl rfl rfl rfl ?_
      obtain ⟨t2, h0, h⟩ := xs_some h
      obtain ⟨N, f, e1, e2, e3⟩ := xaN_some h0
      refine px_aaldO rfl e1 rfl e2 e3 rfl ?_
      refine px_st (lv' := [.ref a0, .ref a1, .ref a2, .int a3, .int a4, .int a5, .int a6, va_rf t2, px_u]) rfl rfl (by first | rfl | (cases t2 <;> rfl)) (by first | rfl | (cases t2 <;> rfl)) rfl (by first | rfl | (cases t2 <;> rfl)) rfl ?_
      refine px_ld rfl rfl rfl (by first | rfl | (cases t2 <;> rfl)) rfl ?_
      obtain ⟨t3, ph4, h0, h⟩ := xb_some h
      refine px_cS1 (lv0 := [va_rf t2]) rfl rfl rfl (by first | rfl | (cases t2 <;> rfl)) rfl (by first | rfl | (cases t2 <;> rfl)) rfl (r_Scribe_isObject h0 :) (fun _ _ q => nomatch q.2) (fun r ph' q => ?_)
      obtain ⟨rfl, q⟩ := q
      cases q
      refine px_ifeq rfl (by decide) rfl (fun hc => ?_) (fun hc => ?_)
      · replace h := (if_pos hc).symm.trans h
        refine px_forget (n := 7) (lv' := [_, _, _, _, _, _, _, _, _]) rfl ?_
        exact (r_Scribe_writePacked_105 @ih h :)
      · replace h := (if_neg hc).symm.trans h
        refine px_iinc (lv' := [_, _, _, _, _, _, _, _, _]) rfl rfl rfl rfl rfl rfl ?_
        refine px_ic (k := 1) rfl rfl rfl ?_
        refine px_st (lv' := [.ref a0, .ref a1, .ref a2, .int (a3 + nI 1), .int a4, .int a5, .int a6, va_rf t2, .int (nI 1)]) rfl rfl rfl rfl (by first | rfl | (cases t2 <;> rfl)) rfl rfl ?_
        exact (r_Scribe_writePacked_38 @ih _ h :)
def f_Scribe_writePacked (F : Nat) (c : px_CT) (a0 : Nat) (a1 : Nat) (a2 : Nat) (ph : px_H) : Option (Int32 × px_H) :=
  f_Scribe_writePacked_11 F c F a0 a1 a2 (nI 0) (nI 0) (nI 0) (nI 0) ph
theorem r_Scribe_writePacked {l : Launch} {g : px_G} {d F : Nat} {a0 : Nat} {a1 : Nat} {a2 : Nat} {ph : px_H} {r : Int32} {ph' : px_H} (h : f_Scribe_writePacked F (px_ct g) a0 a1 a2 ph = some (r, ph')) : PW l g (d + 6) m_Scribe_writePacked 0 [.ref a0, .ref a1, .ref a2, px_u, px_u, px_u, px_u, px_u, px_u] [] ph (px_qI r ph') := by
  unfold f_Scribe_writePacked at h
  refine px_ic (k := 0) rfl rfl rfl ?_
  refine px_st (lv' := [_, _, _, _, _, _, _, _, _]) rfl rfl rfl rfl rfl rfl rfl ?_
  refine px_ic (k := 0) rfl rfl rfl ?_
  refine px_st (lv' := [_, _, _, _, _, _, _, _, _]) rfl rfl rfl rfl rfl rfl rfl ?_
  refine px_ic (k := 0) rfl rfl rfl ?_
  refine px_st (lv' := [_, _, _, _, _, _, _, _, _]) rfl rfl rfl rfl rfl rfl rfl ?_
  refine px_ic (k := 0) rfl rfl rfl ?_
  refine px_st (lv' := [_, _, _, _, _, _, _, _, _]) rfl rfl rfl rfl rfl rfl rfl ?_
  exact (r_Scribe_writePacked_11 _ h :)
def f_H_pack (F : Nat) (c : px_CT) (a0 : Nat) (ph : px_H) : Option (Int32 × px_H) :=
  (xgR ph 0 15 a0).bind fun t1 =>
  (xgR ph 0 2 a0).bind fun t2 =>
  (xgR ph 0 4 a0).bind fun t3 =>
  (xo ph 11 t1).bind fun _ =>
  xb (f_Scribe_writePacked F c t1 t2 t3 ph) fun t4 ph5 =>
  if t4 = 0 then
    some (Int32.ofInt (-1), ph5)
  else
    (xo ph5 0 a0).bind fun _ =>
    xb (f_H_publishDraft F c a0 ph5) fun t6 ph7 =>
    some (t6, ph7)
theorem r_H_pack {l : Launch} {g : px_G} {d F : Nat} {a0 : Nat} {ph : px_H} {r : Int32} {ph' : px_H} (h : f_H_pack F (px_ct g) a0 ph = some (r, ph')) : PW l g (d + 7) m_H_pack 0 [.ref a0] [] ph (px_qI r ph') := by
  unfold f_H_pack at h
  refine px_ld rfl rfl rfl rfl rfl ?_
  obtain ⟨t1, h0, h⟩ := xs_some h
  obtain ⟨fs, e1, e2⟩ := xgR_some h0
  refine px_get rfl e1 e2 rfl ?_
  refine px_ld rfl rfl rfl rfl rfl ?_
  obtain ⟨t2, h0, h⟩ := xs_some h
  obtain ⟨fs, e1, e2⟩ := xgR_some h0
  refine px_get rfl e1 e2 rfl ?_
  refine px_ld rfl rfl rfl rfl rfl ?_
  obtain ⟨t3, h0, h⟩ := xs_some h
  obtain ⟨fs, e1, e2⟩ := xgR_some h0
  refine px_get rfl e1 e2 rfl ?_
  obtain ⟨fs, h0, h⟩ := xs_some h
  have e1 := xo_some h0
  obtain ⟨t4, ph5, h0, h⟩ := xb_some h
  refine px_cV2 rfl rfl e1 rfl rfl rfl rfl rfl rfl rfl (r_Scribe_writePacked h0 :) (fun _ _ q => nomatch q.2) (fun r ph' q => ?_)
  obtain ⟨rfl, q⟩ := q
  cases q
  refine px_ifne rfl rfl rfl (fun hc => ?_) (fun hc => ?_)
  · replace h := (if_neg hc).symm.trans h
    refine px_ld rfl rfl rfl rfl rfl ?_
    obtain ⟨fs, h0, h⟩ := xs_some h
    have e1 := xo_some h0
    obtain ⟨t6, ph7, h0, h⟩ := xb_some h
    refine px_cV0 rfl rfl e1 rfl rfl rfl rfl rfl rfl rfl (r_H_publishDraft h0 :) (fun _ _ q => nomatch q.2) (fun r ph' q => ?_)
    obtain ⟨rfl, q⟩ := q
    cases q
    cases h
    exact px_iret rfl (Or.inl rfl) rfl ⟨rfl, rfl⟩
  · replace h := (if_pos hc).symm.trans h
    refine px_alu rfl rfl rfl ?_
    cases h
    exact px_iret rfl (Or.inl rfl) rfl ⟨rfl, rfl⟩
def f_H_above_19 (F : Nat) (c : px_CT) (s0 : Int32) (ph : px_H) : Option (Int32 × px_H) :=
  xz s0 ph
theorem r_H_above_19 {l : Launch} {g : px_G} {d F : Nat} {s0 : Int32} {ph : px_H} {r : Int32} {ph' : px_H} (h : f_H_above_19 F (px_ct g) s0 ph = some (r, ph')) : PW l g (d + 0) m_H_above 19 [px_u, px_u, px_u, px_u] [.int s0] ph (px_qI r ph') := by
  unfold f_H_above_19 at h
  obtain ⟨e0, e1, e2⟩ := xz_some h
  subst e1 e2
  exact px_iret rfl (Or.inr ⟨rfl, e0⟩) rfl ⟨rfl, rfl⟩
def f_H_above (F : Nat) (c : px_CT) (a0 : Int64) (a2 : Int64) (ph : px_H) : Option (Int32 × px_H) :=
  if (a0 ^^^ ((-9223372036854775808 : Int64))) ≤ (a2 ^^^ ((-9223372036854775808 : Int64))) then
    f_H_above_19 F c (nI 0) ph
  else
    f_H_above_19 F c (nI 1) ph
theorem r_H_above {l : Launch} {g : px_G} {d F : Nat} {a0 : Int64} {a2 : Int64} {ph : px_H} {r : Int32} {ph' : px_H} (h : f_H_above F (px_ct g) a0 a2 ph = some (r, ph')) : PW l g (d + 0) m_H_above 0 [.long a0, px_u, .long a2, px_u] [] ph (px_qI r ph') := by
  unfold f_H_above at h
  refine px_ld rfl rfl rfl rfl rfl ?_
  refine px_ldc2 rfl rfl rfl ?_
  refine px_alu rfl rfl rfl ?_
  refine px_ld rfl rfl rfl rfl rfl ?_
  refine px_ldc2 rfl rfl rfl ?_
  refine px_alu rfl rfl rfl ?_
  refine px_alu rfl rfl rfl ?_
  refine px_ifle rfl rfl rfl (fun hc => ?_) (fun hc => ?_)
  · replace h := (if_pos ((lg_cmp_le _ _).mp hc)).symm.trans h
    refine px_ic (k := 0) rfl rfl rfl ?_
    refine px_forget (n := 0) (lv' := [_, _, _, _]) rfl ?_
    refine px_forget (n := 2) (lv' := [_, _, _, _]) rfl ?_
    exact (r_H_above_19 h :)
  · replace h := (if_neg (fun q => hc ((lg_cmp_le _ _).mpr q))).symm.trans h
    refine px_ic (k := 1) rfl rfl rfl ?_
    refine px_goto rfl rfl rfl ?_
    refine px_forget (n := 0) (lv' := [_, _, _, _]) rfl ?_
    refine px_forget (n := 2) (lv' := [_, _, _, _]) rfl ?_
    exact (r_H_above_19 h :)
def f_Memory_rowAt_47 (F : Nat) (c : px_CT) (ph : px_H) : Option (Int32 × px_H) :=
  some (Int32.ofInt (-1), ph)
theorem r_Memory_rowAt_47 {l : Launch} {g : px_G} {d F : Nat} {ph : px_H} {r : Int32} {ph' : px_H} (h : f_Memory_rowAt_47 F (px_ct g) ph = some (r, ph')) : PW l g (d + 1) m_Memory_rowAt 47 [px_u, px_u, px_u, px_u] [] ph (px_qI r ph') := by
  unfold f_Memory_rowAt_47 at h
  refine px_alu rfl rfl rfl ?_
  cases h
  exact px_iret rfl (Or.inl rfl) rfl ⟨rfl, rfl⟩
def f_Memory_rowAt_39 (F : Nat) (c : px_CT) (a3 : Int32) (ph : px_H) : Option (Int32 × px_H) :=
  some (a3, ph)
theorem r_Memory_rowAt_39 {l : Launch} {g : px_G} {d F : Nat} {a3 : Int32} {ph : px_H} {r : Int32} {ph' : px_H} (h : f_Memory_rowAt_39 F (px_ct g) a3 ph = some (r, ph')) : PW l g (d + 1) m_Memory_rowAt 39 [px_u, px_u, px_u, .int a3] [] ph (px_qI r ph') := by
  unfold f_Memory_rowAt_39 at h
  refine px_ld rfl rfl rfl rfl rfl ?_
  cases h
  exact px_iret rfl (Or.inl rfl) rfl ⟨rfl, rfl⟩
def f_Memory_rowAt_2 (F : Nat) (c : px_CT) : Nat → Nat → Int64 → Int32 → px_H → Option (Int32 × px_H)
  | 0, _, _, _, _ => none
  | n + 1, a0, a1, a3, ph =>
    (xgI ph 4 6 a0).bind fun t1 =>
    if t1 ≤ a3 then
      f_Memory_rowAt_47 F c ph
    else
      (xgR ph 4 1 a0).bind fun t2 =>
      (xal ph 2 t2).bind fun t3 =>
      if t3 ≤ a3 then
        f_Memory_rowAt_47 F c ph
      else
        (xgR ph 4 2 a0).bind fun t4 =>
        (xaJ ph 2 t4 a3).bind fun t5 =>
        (xgR ph 4 1 a0).bind fun t6 =>
        (xaJ ph 2 t6 a3).bind fun t7 =>
        xb (f_H_above F c t5 (a1 - t7) ph) fun t8 ph9 =>
        if t8 = 0 then
          f_Memory_rowAt_2 F c n a0 a1 (a3 + nI 1) ph9
        else
          f_Memory_rowAt_39 F c a3 ph9
theorem r_Memory_rowAt_2 {l : Launch} {g : px_G} {d F : Nat} : ∀ (n : Nat) {a0 : Nat} {a1 : Int64} {a3 : Int32} {ph : px_H} {r : Int32} {ph' : px_H}, f_Memory_rowAt_2 F (px_ct g) n a0 a1 a3 ph = some (r, ph') → PW l g (d + 1) m_Memory_rowAt 2 [.ref a0, .long a1, px_u, .int a3] [] ph (px_qI r ph') := by
  intro n
  induction n with
  | zero => intro _ _ _ _ _ _ h; cases h
  | succ n ih =>
    intro a0 a1 a3 ph r ph' h
    unfold f_Memory_rowAt_2 at h
    refine px_ld rfl rfl rfl rfl rfl ?_
    refine px_ld rfl rfl rfl rfl rfl ?_
    obtain ⟨t1, h0, h⟩ := xs_some h
    obtain ⟨fs, e1, e2⟩ := xgI_some h0
    refine px_get rfl e1 e2 rfl ?_
    refine px_icge rfl rfl rfl (fun hc => ?_) (fun hc => ?_)
    · replace h := (if_pos hc).symm.trans h
      refine px_forget (n := 0) (lv' := [_, _, _, _]) rfl ?_
      refine px_forget (n := 1) (lv' := [_, _, _, _]) rfl ?_
      refine px_forget (n := 3) (lv' := [_, _, _, _]) rfl ?_
      exact (r_Memory_rowAt_47 h :)
    · replace h := (if_neg hc).symm.trans h
      refine px_ld rfl rfl rfl rfl rfl ?_
      refine px_ld rfl rfl rfl rfl rfl ?_
      obtain ⟨t2, h0, h⟩ := xs_some h
      obtain ⟨fs, e1, e2⟩ := xgR_some h0
      refine px_get rfl e1 e2 rfl ?_
      obtain ⟨t3, h0, h⟩ := xs_some h
      obtain ⟨x, e1, e3⟩ := xal_some h0
      subst e3
      refine px_alen rfl e1 rfl rfl ?_
      refine px_icge rfl rfl rfl (fun hc => ?_) (fun hc => ?_)
      · replace h := (if_pos hc).symm.trans h
        refine px_forget (n := 0) (lv' := [_, _, _, _]) rfl ?_
        refine px_forget (n := 1) (lv' := [_, _, _, _]) rfl ?_
        refine px_forget (n := 3) (lv' := [_, _, _, _]) rfl ?_
        exact (r_Memory_rowAt_47 h :)
      · replace h := (if_neg hc).symm.trans h
        refine px_ld rfl rfl rfl rfl rfl ?_
        obtain ⟨t4, h0, h⟩ := xs_some h
        obtain ⟨fs, e1, e2⟩ := xgR_some h0
        refine px_get rfl e1 e2 rfl ?_
        refine px_ld rfl rfl rfl rfl rfl ?_
        obtain ⟨t5, h0, h⟩ := xs_some h
        obtain ⟨N, f, e1, e2, e3⟩ := xaJ_some h0
        subst e3
        refine px_lald rfl e1 rfl e2 rfl ?_
        refine px_ld rfl rfl rfl rfl rfl ?_
        refine px_ld rfl rfl rfl rfl rfl ?_
        obtain ⟨t6, h0, h⟩ := xs_some h
        obtain ⟨fs, e1, e2⟩ := xgR_some h0
        refine px_get rfl e1 e2 rfl ?_
        refine px_ld rfl rfl rfl rfl rfl ?_
        obtain ⟨t7, h0, h⟩ := xs_some h
        obtain ⟨N, f, e1, e2, e3⟩ := xaJ_some h0
        subst e3
        refine px_lald rfl e1 rfl e2 rfl ?_
        refine px_alu rfl rfl rfl ?_
        obtain ⟨t8, ph9, h0, h⟩ := xb_some h
        refine px_cS2 rfl rfl rfl rfl rfl rfl rfl (r_H_above h0 :) (fun _ _ q => nomatch q.2) (fun r ph' q => ?_)
        obtain ⟨rfl, q⟩ := q
        cases q
        refine px_ifeq rfl rfl rfl (fun hc => ?_) (fun hc => ?_)
        · replace h := (if_pos hc).symm.trans h
          refine px_iinc (lv' := [_, _, _, _]) rfl rfl rfl rfl rfl rfl ?_
          refine px_goto rfl rfl rfl ?_
          exact (ih h :)
        · replace h := (if_neg hc).symm.trans h
          refine px_forget (n := 0) (lv' := [_, _, _, _]) rfl ?_
          refine px_forget (n := 1) (lv' := [_, _, _, _]) rfl ?_
          exact (r_Memory_rowAt_39 h :)
def f_Memory_rowAt (F : Nat) (c : px_CT) (a0 : Nat) (a1 : Int64) (ph : px_H) : Option (Int32 × px_H) :=
  f_Memory_rowAt_2 F c F a0 a1 (nI 0) ph
theorem r_Memory_rowAt {l : Launch} {g : px_G} {d F : Nat} {a0 : Nat} {a1 : Int64} {ph : px_H} {r : Int32} {ph' : px_H} (h : f_Memory_rowAt F (px_ct g) a0 a1 ph = some (r, ph')) : PW l g (d + 1) m_Memory_rowAt 0 [.ref a0, .long a1, px_u, px_u] [] ph (px_qI r ph') := by
  unfold f_Memory_rowAt at h
  refine px_ic (k := 0) rfl rfl rfl ?_
  refine px_st (lv' := [_, _, _, _]) rfl rfl rfl rfl rfl rfl rfl ?_
  exact (r_Memory_rowAt_2 _ h :)
def f_Row_num_33 (F : Nat) (c : px_CT) (a3 : Int64) (ph : px_H) : Option (Int64 × px_H) :=
  some (a3, ph)
theorem r_Row_num_33 {l : Launch} {g : px_G} {d F : Nat} {a3 : Int64} {ph : px_H} {r : Int64} {ph' : px_H} (h : f_Row_num_33 F (px_ct g) a3 ph = some (r, ph')) : PW l g (d + 1) m_Row_num 33 [px_u, px_u, px_u, .long a3, px_u, px_u] [] ph (px_qJ r ph') := by
  unfold f_Row_num_33 at h
  refine px_ld rfl rfl rfl rfl rfl ?_
  cases h
  exact px_lret rfl rfl rfl ⟨rfl, rfl⟩
def f_Row_num_7 (F : Nat) (c : px_CT) : Nat → Nat → Int32 → Int64 → Int32 → px_H → Option (Int64 × px_H)
  | 0, _, _, _, _, _ => none
  | n + 1, a0, a1, a3, a5, ph =>
    if a5 < 0 then
      f_Row_num_33 F c a3 ph
    else
      (xo ph 10 a0).bind fun _ =>
      xb (f_Row_at F c a0 (a1 + a5) ph) fun t1 ph2 =>
      f_Row_num_7 F c n a0 a1 ((a3 <<< ((nI 8).toInt64 &&& 63)) ||| t1.toInt64) (a5 + Int32.ofInt (-1)) ph2
theorem r_Row_num_7 {l : Launch} {g : px_G} {d F : Nat} : ∀ (n : Nat) {a0 : Nat} {a1 : Int32} {a3 : Int64} {a5 : Int32} {ph : px_H} {r : Int64} {ph' : px_H}, f_Row_num_7 F (px_ct g) n a0 a1 a3 a5 ph = some (r, ph') → PW l g (d + 1) m_Row_num 7 [.ref a0, .int a1, px_u, .long a3, px_u, .int a5] [] ph (px_qJ r ph') := by
  intro n
  induction n with
  | zero => intro _ _ _ _ _ _ _ h; cases h
  | succ n ih =>
    intro a0 a1 a3 a5 ph r ph' h
    unfold f_Row_num_7 at h
    refine px_ld rfl rfl rfl rfl rfl ?_
    refine px_iflt rfl rfl rfl (fun hc => ?_) (fun hc => ?_)
    · replace h := (if_pos hc).symm.trans h
      refine px_forget (n := 0) (lv' := [_, _, _, _, _, _]) rfl ?_
      refine px_forget (n := 1) (lv' := [_, _, _, _, _, _]) rfl ?_
      refine px_forget (n := 5) (lv' := [_, _, _, _, _, _]) rfl ?_
      exact (r_Row_num_33 h :)
    · replace h := (if_neg hc).symm.trans h
      refine px_ld rfl rfl rfl rfl rfl ?_
      refine px_ic (k := 8) rfl rfl rfl ?_
      refine px_alu rfl rfl rfl ?_
      refine px_ld rfl rfl rfl rfl rfl ?_
      refine px_ld rfl rfl rfl rfl rfl ?_
      refine px_ld rfl rfl rfl rfl rfl ?_
      refine px_alu rfl rfl rfl ?_
      obtain ⟨fs, h0, h⟩ := xs_some h
      have e1 := xo_some h0
      obtain ⟨t1, ph2, h0, h⟩ := xb_some h
      refine px_cV1 rfl rfl e1 rfl rfl rfl rfl rfl rfl rfl (r_Row_at h0 :) (fun _ _ q => nomatch q.2) (fun r ph' q => ?_)
      obtain ⟨rfl, q⟩ := q
      cases q
      refine px_alu rfl rfl rfl ?_
      refine px_alu rfl rfl rfl ?_
      refine px_st (lv' := [_, _, _, _, _, _]) rfl rfl rfl rfl rfl rfl rfl ?_
      refine px_iinc (lv' := [_, _, _, _, _, _]) rfl rfl rfl rfl rfl rfl ?_
      refine px_goto rfl rfl rfl ?_
      exact (ih h :)
def f_Row_num (F : Nat) (c : px_CT) (a0 : Nat) (a1 : Int32) (a2 : Int32) (ph : px_H) : Option (Int64 × px_H) :=
  f_Row_num_7 F c F a0 a1 (lN 0) (a2 - (nI 1)) ph
theorem r_Row_num {l : Launch} {g : px_G} {d F : Nat} {a0 : Nat} {a1 : Int32} {a2 : Int32} {ph : px_H} {r : Int64} {ph' : px_H} (h : f_Row_num F (px_ct g) a0 a1 a2 ph = some (r, ph')) : PW l g (d + 1) m_Row_num 0 [.ref a0, .int a1, .int a2, px_u, px_u, px_u] [] ph (px_qJ r ph') := by
  unfold f_Row_num at h
  refine px_alu rfl rfl rfl ?_
  refine px_st (lv' := [_, _, _, _, _, _]) rfl rfl rfl rfl rfl rfl rfl ?_
  refine px_ld rfl rfl rfl rfl rfl ?_
  refine px_ic (k := 1) rfl rfl rfl ?_
  refine px_alu rfl rfl rfl ?_
  refine px_st (lv' := [_, _, _, _, _, _]) rfl rfl rfl rfl rfl rfl rfl ?_
  refine px_forget (n := 2) (lv' := [_, _, _, _, _, _]) rfl ?_
  exact (r_Row_num_7 _ h :)
def f_Memory_valueOf (F : Nat) (c : px_CT) (a0 : Nat) (a1 : Int32) (ph : px_H) : Option (Int64 × px_H) :=
  (xgR ph 4 0 a0).bind fun t1 =>
  (xgI ph 4 8 a0).bind fun t2 =>
  (xo ph 10 t1).bind fun _ =>
  xb (f_Row_num F c t1 ((t2 + ((nI 24) * a1)) + (nI 8)) (nI 8) ph) fun t3 ph4 =>
  some (t3, ph4)
theorem r_Memory_valueOf {l : Launch} {g : px_G} {d F : Nat} {a0 : Nat} {a1 : Int32} {ph : px_H} {r : Int64} {ph' : px_H} (h : f_Memory_valueOf F (px_ct g) a0 a1 ph = some (r, ph')) : PW l g (d + 2) m_Memory_valueOf 0 [.ref a0, .int a1] [] ph (px_qJ r ph') := by
  unfold f_Memory_valueOf at h
  refine px_ld rfl rfl rfl rfl rfl ?_
  obtain ⟨t1, h0, h⟩ := xs_some h
  obtain ⟨fs, e1, e2⟩ := xgR_some h0
  refine px_get rfl e1 e2 rfl ?_
  refine px_ld rfl rfl rfl rfl rfl ?_
  obtain ⟨t2, h0, h⟩ := xs_some h
  obtain ⟨fs, e1, e2⟩ := xgI_some h0
  refine px_get rfl e1 e2 rfl ?_
  refine px_ic (k := 24) rfl rfl rfl ?_
  refine px_ld rfl rfl rfl rfl rfl ?_
  refine px_alu rfl rfl rfl ?_
  refine px_alu rfl rfl rfl ?_
  refine px_ic (k := 8) rfl rfl rfl ?_
  refine px_alu rfl rfl rfl ?_
  refine px_ic (k := 8) rfl rfl rfl ?_
  obtain ⟨fs, h0, h⟩ := xs_some h
  have e1 := xo_some h0
  obtain ⟨t3, ph4, h0, h⟩ := xb_some h
  refine px_cV2 rfl rfl e1 rfl rfl rfl rfl rfl rfl rfl (r_Row_num h0 :) (fun _ _ q => nomatch q.2) (fun r ph' q => ?_)
  obtain ⟨rfl, q⟩ := q
  cases q
  cases h
  exact px_lret rfl rfl rfl ⟨rfl, rfl⟩
def f_Row_nameLength_33 (F : Nat) (c : px_CT) (ph : px_H) : Option (Int32 × px_H) :=
  some (nI 0, ph)
theorem r_Row_nameLength_33 {l : Launch} {g : px_G} {d F : Nat} {ph : px_H} {r : Int32} {ph' : px_H} (h : f_Row_nameLength_33 F (px_ct g) ph = some (r, ph')) : PW l g (d + 1) m_Row_nameLength 33 [px_u, px_u, px_u, px_u] [] ph (px_qI r ph') := by
  unfold f_Row_nameLength_33 at h
  refine px_ic (k := 0) rfl rfl rfl ?_
  cases h
  exact px_iret rfl (Or.inl rfl) rfl ⟨rfl, rfl⟩
def f_Row_nameLength_25 (F : Nat) (c : px_CT) (a3 : Int32) (ph : px_H) : Option (Int32 × px_H) :=
  some (a3, ph)
theorem r_Row_nameLength_25 {l : Launch} {g : px_G} {d F : Nat} {a3 : Int32} {ph : px_H} {r : Int32} {ph' : px_H} (h : f_Row_nameLength_25 F (px_ct g) a3 ph = some (r, ph')) : PW l g (d + 1) m_Row_nameLength 25 [px_u, px_u, px_u, .int a3] [] ph (px_qI r ph') := by
  unfold f_Row_nameLength_25 at h
  refine px_ld rfl rfl rfl rfl rfl ?_
  cases h
  exact px_iret rfl (Or.inl rfl) rfl ⟨rfl, rfl⟩
def f_Row_nameLength_2 (F : Nat) (c : px_CT) : Nat → Nat → Int32 → Int32 → Int32 → px_H → Option (Int32 × px_H)
  | 0, _, _, _, _, _ => none
  | n + 1, a0, a1, a2, a3, ph =>
    if (nI 20) < a3 then
      f_Row_nameLength_33 F c ph
    else
      if a2 ≤ (a1 + a3) then
        f_Row_nameLength_33 F c ph
      else
        (xo ph 10 a0).bind fun _ =>
        xb (f_Row_at F c a0 (a1 + a3) ph) fun t1 ph2 =>
        if t1 = 0 then
          f_Row_nameLength_25 F c a3 ph2
        else
          f_Row_nameLength_2 F c n a0 a1 a2 (a3 + nI 1) ph2
theorem r_Row_nameLength_2 {l : Launch} {g : px_G} {d F : Nat} : ∀ (n : Nat) {a0 : Nat} {a1 : Int32} {a2 : Int32} {a3 : Int32} {ph : px_H} {r : Int32} {ph' : px_H}, f_Row_nameLength_2 F (px_ct g) n a0 a1 a2 a3 ph = some (r, ph') → PW l g (d + 1) m_Row_nameLength 2 [.ref a0, .int a1, .int a2, .int a3] [] ph (px_qI r ph') := by
  intro n
  induction n with
  | zero => intro _ _ _ _ _ _ _ h; cases h
  | succ n ih =>
    intro a0 a1 a2 a3 ph r ph' h
    unfold f_Row_nameLength_2 at h
    refine px_ld rfl rfl rfl rfl rfl ?_
    refine px_ic (k := 20) rfl rfl rfl ?_
    refine px_icgt rfl rfl rfl (fun hc => ?_) (fun hc => ?_)
    · replace h := (if_pos hc).symm.trans h
      refine px_forget (n := 0) (lv' := [_, _, _, _]) rfl ?_
      refine px_forget (n := 1) (lv' := [_, _, _, _]) rfl ?_
      refine px_forget (n := 2) (lv' := [_, _, _, _]) rfl ?_
      refine px_forget (n := 3) (lv' := [_, _, _, _]) rfl ?_
      exact (r_Row_nameLength_33 h :)
    · replace h := (if_neg hc).symm.trans h
      refine px_ld rfl rfl rfl rfl rfl ?_
      refine px_ld rfl rfl rfl rfl rfl ?_
      refine px_alu rfl rfl rfl ?_
      refine px_ld rfl rfl rfl rfl rfl ?_
      refine px_icge rfl rfl rfl (fun hc => ?_) (fun hc => ?_)
      · replace h := (if_pos hc).symm.trans h
        refine px_forget (n := 0) (lv' := [_, _, _, _]) rfl ?_
        refine px_forget (n := 1) (lv' := [_, _, _, _]) rfl ?_
        refine px_forget (n := 2) (lv' := [_, _, _, _]) rfl ?_
        refine px_forget (n := 3) (lv' := [_, _, _, _]) rfl ?_
        exact (r_Row_nameLength_33 h :)
      · replace h := (if_neg hc).symm.trans h
        refine px_ld rfl rfl rfl rfl rfl ?_
        refine px_ld rfl rfl rfl rfl rfl ?_
        refine px_ld rfl rfl rfl rfl rfl ?_
        refine px_alu rfl rfl rfl ?_
        obtain ⟨fs, h0, h⟩ := xs_some h
        have e1 := xo_some h0
        obtain ⟨t1, ph2, h0, h⟩ := xb_some h
        refine px_cV1 rfl rfl e1 rfl rfl rfl rfl rfl rfl rfl (r_Row_at h0 :) (fun _ _ q => nomatch q.2) (fun r ph' q => ?_)
        obtain ⟨rfl, q⟩ := q
        cases q
        refine px_ifne rfl rfl rfl (fun hc => ?_) (fun hc => ?_)
        · replace h := (if_neg hc).symm.trans h
          refine px_iinc (lv' := [_, _, _, _]) rfl rfl rfl rfl rfl rfl ?_
          refine px_goto rfl rfl rfl ?_
          exact (ih h :)
        · replace h := (if_pos hc).symm.trans h
          refine px_forget (n := 0) (lv' := [_, _, _, _]) rfl ?_
          refine px_forget (n := 1) (lv' := [_, _, _, _]) rfl ?_
          refine px_forget (n := 2) (lv' := [_, _, _, _]) rfl ?_
          exact (r_Row_nameLength_25 h :)
def f_Row_nameLength (F : Nat) (c : px_CT) (a0 : Nat) (a1 : Int32) (a2 : Int32) (ph : px_H) : Option (Int32 × px_H) :=
  f_Row_nameLength_2 F c F a0 a1 a2 (nI 0) ph
theorem r_Row_nameLength {l : Launch} {g : px_G} {d F : Nat} {a0 : Nat} {a1 : Int32} {a2 : Int32} {ph : px_H} {r : Int32} {ph' : px_H} (h : f_Row_nameLength F (px_ct g) a0 a1 a2 ph = some (r, ph')) : PW l g (d + 1) m_Row_nameLength 0 [.ref a0, .int a1, .int a2, px_u] [] ph (px_qI r ph') := by
  unfold f_Row_nameLength at h
  refine px_ic (k := 0) rfl rfl rfl ?_
  refine px_st (lv' := [_, _, _, _]) rfl rfl rfl rfl rfl rfl rfl ?_
  exact (r_Row_nameLength_2 _ h :)
def f_Memory_isName_106 (F : Nat) (c : px_CT) (s0 : Int32) (ph : px_H) : Option (Int32 × px_H) :=
  xz s0 ph
theorem r_Memory_isName_106 {l : Launch} {g : px_G} {d F : Nat} {s0 : Int32} {ph : px_H} {r : Int32} {ph' : px_H} (h : f_Memory_isName_106 F (px_ct g) s0 ph = some (r, ph')) : PW l g (d + 2) m_Memory_isName 106 [px_u, px_u, px_u, px_u, px_u, px_u] [.int s0] ph (px_qI r ph') := by
  unfold f_Memory_isName_106 at h
  obtain ⟨e0, e1, e2⟩ := xz_some h
  subst e1 e2
  exact px_iret rfl (Or.inr ⟨rfl, e0⟩) rfl ⟨rfl, rfl⟩
def f_Memory_isName_105 (F : Nat) (c : px_CT) (ph : px_H) : Option (Int32 × px_H) :=
  f_Memory_isName_106 F c (nI 0) ph
theorem r_Memory_isName_105 {l : Launch} {g : px_G} {d F : Nat} {ph : px_H} {r : Int32} {ph' : px_H} (h : f_Memory_isName_105 F (px_ct g) ph = some (r, ph')) : PW l g (d + 2) m_Memory_isName 105 [px_u, px_u, px_u, px_u, px_u, px_u] [] ph (px_qI r ph') := by
  unfold f_Memory_isName_105 at h
  refine px_ic (k := 0) rfl rfl rfl ?_
  exact (r_Memory_isName_106 h :)
def f_Memory_isName_50 (F : Nat) (c : px_CT) (ph : px_H) : Option (Int32 × px_H) :=
  some (nI 0, ph)
theorem r_Memory_isName_50 {l : Launch} {g : px_G} {d F : Nat} {ph : px_H} {r : Int32} {ph' : px_H} (h : f_Memory_isName_50 F (px_ct g) ph = some (r, ph')) : PW l g (d + 2) m_Memory_isName 50 [px_u, px_u, px_u, px_u, px_u, px_u] [] ph (px_qI r ph') := by
  unfold f_Memory_isName_50 at h
  refine px_ic (k := 0) rfl rfl rfl ?_
  cases h
  exact px_iret rfl (Or.inr ⟨rfl, Or.inl rfl⟩) rfl ⟨rfl, rfl⟩
def f_Memory_isName_33 (F : Nat) (c : px_CT) (a0 : Nat) (a2 : Int32) (ph : px_H) : Option (Int32 × px_H) :=
  (xgR ph 4 0 a0).bind fun t1 =>
  (xo ph 10 t1).bind fun _ =>
  xb (f_Row_num F c t1 (a2 + (nI 6)) (nI 2) ph) fun t2 ph3 =>
  if t2 = (lN 0) then
    f_Memory_isName_50 F c ph3
  else
    (xgR ph3 4 0 a0).bind fun t4 =>
    (xo ph3 10 t4).bind fun _ =>
    xb (f_Row_num F c t4 a2 (nI 4) ph3) fun t5 ph6 =>
    (xgI ph6 4 11 a0).bind fun t7 =>
    if t7.toInt64 ≤ t5 then
      f_Memory_isName_105 F c ph6
    else
      (xgR ph6 4 0 a0).bind fun t8 =>
      (xgI ph6 4 10 a0).bind fun t9 =>
      (xgI ph6 4 10 a0).bind fun t10 =>
      (xgI ph6 4 11 a0).bind fun t11 =>
      (xo ph6 10 t8).bind fun _ =>
      xb (f_Row_nameLength F c t8 (t9 + t5.toInt32) (t10 + t11) ph6) fun t12 ph13 =>
      if t12 ≤ 0 then
        f_Memory_isName_105 F c ph13
      else
        f_Memory_isName_106 F c (nI 1) ph13
theorem r_Memory_isName_33 {l : Launch} {g : px_G} {d F : Nat} {a0 : Nat} {a2 : Int32} {ph : px_H} {r : Int32} {ph' : px_H} (h : f_Memory_isName_33 F (px_ct g) a0 a2 ph = some (r, ph')) : PW l g (d + 2) m_Memory_isName 33 [.ref a0, px_u, .int a2, px_u, px_u, px_u] [] ph (px_qI r ph') := by
  unfold f_Memory_isName_33 at h
  refine px_ld rfl rfl rfl rfl rfl ?_
  obtain ⟨t1, h0, h⟩ := xs_some h
  obtain ⟨fs, e1, e2⟩ := xgR_some h0
  refine px_get rfl e1 e2 rfl ?_
  refine px_ld rfl rfl rfl rfl rfl ?_
  refine px_ic (k := 6) rfl rfl rfl ?_
  refine px_alu rfl rfl rfl ?_
  refine px_ic (k := 2) rfl rfl rfl ?_
  obtain ⟨fs, h0, h⟩ := xs_some h
  have e1 := xo_some h0
  obtain ⟨t2, ph3, h0, h⟩ := xb_some h
  refine px_cV2 rfl rfl e1 rfl rfl rfl rfl rfl rfl rfl (r_Row_num h0 :) (fun _ _ q => nomatch q.2) (fun r ph' q => ?_)
  obtain ⟨rfl, q⟩ := q
  cases q
  refine px_alu rfl rfl rfl ?_
  refine px_alu rfl rfl rfl ?_
  refine px_ifne rfl (by decide) rfl (fun hc => ?_) (fun hc => ?_)
  · replace h := (if_neg (fun q => hc ((lg_cmp_eq _ _).mpr q))).symm.trans h
    refine px_ld rfl rfl rfl rfl rfl ?_
    obtain ⟨t4, h0, h⟩ := xs_some h
    obtain ⟨fs, e1, e2⟩ := xgR_some h0
    refine px_get rfl e1 e2 rfl ?_
    refine px_ld rfl rfl rfl rfl rfl ?_
    refine px_ic (k := 4) rfl rfl rfl ?_
    obtain ⟨fs, h0, h⟩ := xs_some h
    have e1 := xo_some h0
    obtain ⟨t5, ph6, h0, h⟩ := xb_some h
    refine px_cV2 rfl rfl e1 rfl rfl rfl rfl rfl rfl rfl (r_Row_num h0 :) (fun _ _ q => nomatch q.2) (fun r ph' q => ?_)
    obtain ⟨rfl, q⟩ := q
    cases q
    refine px_st (lv' := [_, _, _, _, _, _]) rfl rfl rfl rfl rfl rfl rfl ?_
    refine px_ld rfl rfl rfl rfl rfl ?_
    refine px_ld rfl rfl rfl rfl rfl ?_
    obtain ⟨t7, h0, h⟩ := xs_some h
    obtain ⟨fs, e1, e2⟩ := xgI_some h0
    refine px_get rfl e1 e2 rfl ?_
    refine px_alu rfl rfl rfl ?_
    refine px_alu rfl rfl rfl ?_
    refine px_ifge rfl (by decide) rfl (fun hc => ?_) (fun hc => ?_)
    · replace h := (if_pos ((lg_cmp_ge _ _).mp hc)).symm.trans h
      refine px_forget (n := 0) (lv' := [_, _, _, _, _, _]) rfl ?_
      refine px_forget (n := 2) (lv' := [_, _, _, _, _, _]) rfl ?_
      refine px_forget (n := 4) (lv' := [_, _, _, _, _, _]) rfl ?_
      exact (r_Memory_isName_105 h :)
    · replace h := (if_neg (fun q => hc ((lg_cmp_ge _ _).mpr q))).symm.trans h
      refine px_ld rfl rfl rfl rfl rfl ?_
      obtain ⟨t8, h0, h⟩ := xs_some h
      obtain ⟨fs, e1, e2⟩ := xgR_some h0
      refine px_get rfl e1 e2 rfl ?_
      refine px_ld rfl rfl rfl rfl rfl ?_
      obtain ⟨t9, h0, h⟩ := xs_some h
      obtain ⟨fs, e1, e2⟩ := xgI_some h0
      refine px_get rfl e1 e2 rfl ?_
      refine px_ld rfl rfl rfl rfl rfl ?_
      refine px_alu rfl rfl rfl ?_
      refine px_alu rfl rfl rfl ?_
      refine px_ld rfl rfl rfl rfl rfl ?_
      obtain ⟨t10, h0, h⟩ := xs_some h
      obtain ⟨fs, e1, e2⟩ := xgI_some h0
      refine px_get rfl e1 e2 rfl ?_
      refine px_ld rfl rfl rfl rfl rfl ?_
      obtain ⟨t11, h0, h⟩ := xs_some h
      obtain ⟨fs, e1, e2⟩ := xgI_some h0
      refine px_get rfl e1 e2 rfl ?_
      refine px_alu rfl rfl rfl ?_
      obtain ⟨fs, h0, h⟩ := xs_some h
      have e1 := xo_some h0
      obtain ⟨t12, ph13, h0, h⟩ := xb_some h
      refine px_cV2 rfl rfl e1 rfl rfl rfl rfl rfl rfl rfl (r_Row_nameLength h0 :) (fun _ _ q => nomatch q.2) (fun r ph' q => ?_)
      obtain ⟨rfl, q⟩ := q
      cases q
      refine px_ifle rfl (by decide) rfl (fun hc => ?_) (fun hc => ?_)
      · replace h := (if_pos hc).symm.trans h
        refine px_forget (n := 0) (lv' := [_, _, _, _, _, _]) rfl ?_
        refine px_forget (n := 2) (lv' := [_, _, _, _, _, _]) rfl ?_
        refine px_forget (n := 4) (lv' := [_, _, _, _, _, _]) rfl ?_
        exact (r_Memory_isName_105 h :)
      · replace h := (if_neg hc).symm.trans h
        refine px_ic (k := 1) rfl rfl rfl ?_
        refine px_goto rfl (by decide) rfl ?_
        refine px_forget (n := 0) (lv' := [_, _, _, _, _, _]) rfl ?_
        refine px_forget (n := 2) (lv' := [_, _, _, _, _, _]) rfl ?_
        refine px_forget (n := 4) (lv' := [_, _, _, _, _, _]) rfl ?_
        exact (r_Memory_isName_106 h :)
  · replace h := (if_pos ((lg_cmp_eq _ _).mp hc)).symm.trans h
    refine px_forget (n := 0) (lv' := [_, _, _, _, _, _]) rfl ?_
    refine px_forget (n := 2) (lv' := [_, _, _, _, _, _]) rfl ?_
    exact (r_Memory_isName_50 h :)
def f_Memory_isName (F : Nat) (c : px_CT) (a0 : Nat) (a1 : Int32) (ph : px_H) : Option (Int32 × px_H) :=
  (xgI ph 4 8 a0).bind fun t1 =>
  (xgR ph 4 0 a0).bind fun t2 =>
  (xo ph 10 t2).bind fun _ =>
  xb (f_Row_at F c t2 ((t1 + ((nI 24) * a1)) + (nI 4)) ph) fun t3 ph4 =>
  if (t3 >>> ((nI 4) &&& 31)) = (nI 1) then
    f_Memory_isName_33 F c a0 (t1 + ((nI 24) * a1)) ph4
  else
    if (t3 >>> ((nI 4) &&& 31)) = (nI 2) then
      f_Memory_isName_33 F c a0 (t1 + ((nI 24) * a1)) ph4
    else
      f_Memory_isName_50 F c ph4
theorem r_Memory_isName {l : Launch} {g : px_G} {d F : Nat} {a0 : Nat} {a1 : Int32} {ph : px_H} {r : Int32} {ph' : px_H} (h : f_Memory_isName F (px_ct g) a0 a1 ph = some (r, ph')) : PW l g (d + 2) m_Memory_isName 0 [.ref a0, .int a1, px_u, px_u, px_u, px_u] [] ph (px_qI r ph') := by
  unfold f_Memory_isName at h
  refine px_ld rfl rfl rfl rfl rfl ?_
  obtain ⟨t1, h0, h⟩ := xs_some h
  obtain ⟨fs, e1, e2⟩ := xgI_some h0
  refine px_get rfl e1 e2 rfl ?_
  refine px_ic (k := 24) rfl rfl rfl ?_
  refine px_ld rfl rfl rfl rfl rfl ?_
  refine px_alu rfl rfl rfl ?_
  refine px_alu rfl rfl rfl ?_
  refine px_st (lv' := [_, _, _, _, _, _]) rfl rfl rfl rfl rfl rfl rfl ?_
  refine px_ld rfl rfl rfl rfl rfl ?_
  obtain ⟨t2, h0, h⟩ := xs_some h
  obtain ⟨fs, e1, e2⟩ := xgR_some h0
  refine px_get rfl e1 e2 rfl ?_
  refine px_ld rfl rfl rfl rfl rfl ?_
  refine px_ic (k := 4) rfl rfl rfl ?_
  refine px_alu rfl rfl rfl ?_
  obtain ⟨fs, h0, h⟩ := xs_some h
  have e1 := xo_some h0
  obtain ⟨t3, ph4, h0, h⟩ := xb_some h
  refine px_cV1 rfl rfl e1 rfl rfl rfl rfl rfl rfl rfl (r_Row_at h0 :) (fun _ _ q => nomatch q.2) (fun r ph' q => ?_)
  obtain ⟨rfl, q⟩ := q
  cases q
  refine px_ic (k := 4) rfl rfl rfl ?_
  refine px_alu rfl rfl rfl ?_
  refine px_st (lv' := [_, _, _, _, _, _]) rfl rfl rfl rfl rfl rfl rfl ?_
  refine px_ld rfl rfl rfl rfl rfl ?_
  refine px_ic (k := 1) rfl rfl rfl ?_
  refine px_iceq rfl (by decide) rfl (fun hc => ?_) (fun hc => ?_)
  · replace h := (if_pos hc).symm.trans h
    refine px_forget (n := 1) (lv' := [_, _, _, _, _, _]) rfl ?_
    refine px_forget (n := 3) (lv' := [_, _, _, _, _, _]) rfl ?_
    exact (r_Memory_isName_33 h :)
  · replace h := (if_neg hc).symm.trans h
    refine px_ld rfl rfl rfl rfl rfl ?_
    refine px_ic (k := 2) rfl rfl rfl ?_
    refine px_icne rfl (by decide) rfl (fun hc => ?_) (fun hc => ?_)
    · replace h := (if_neg hc).symm.trans h
      refine px_forget (n := 0) (lv' := [_, _, _, _, _, _]) rfl ?_
      refine px_forget (n := 1) (lv' := [_, _, _, _, _, _]) rfl ?_
      refine px_forget (n := 2) (lv' := [_, _, _, _, _, _]) rfl ?_
      refine px_forget (n := 3) (lv' := [_, _, _, _, _, _]) rfl ?_
      exact (r_Memory_isName_50 h :)
    · replace h := (if_pos hc).symm.trans h
      refine px_forget (n := 1) (lv' := [_, _, _, _, _, _]) rfl ?_
      refine px_forget (n := 3) (lv' := [_, _, _, _, _, _]) rfl ?_
      exact (r_Memory_isName_33 h :)
def f_Memory_nearest_78 (F : Nat) (c : px_CT) (a3 : Int32) (ph : px_H) : Option (Int32 × px_H) :=
  some (a3, ph)
theorem r_Memory_nearest_78 {l : Launch} {g : px_G} {d F : Nat} {a3 : Int32} {ph : px_H} {r : Int32} {ph' : px_H} (h : f_Memory_nearest_78 F (px_ct g) a3 ph = some (r, ph')) : PW l g (d + 3) m_Memory_nearest 78 [px_u, px_u, px_u, .int a3, px_u, px_u] [] ph (px_qI r ph') := by
  unfold f_Memory_nearest_78 at h
  refine px_ld rfl rfl rfl rfl rfl ?_
  cases h
  exact px_iret rfl (Or.inl rfl) rfl ⟨rfl, rfl⟩
def f_Memory_nearest_72 (F : Nat) (c : px_CT) (k5 : Nat → Int64 → Int32 → Int32 → px_H → Option (Int32 × px_H)) (a0 : Nat) (a1 : Int64) (a3 : Int32) (a4 : Int32) (ph : px_H) : Option (Int32 × px_H) :=
  k5 a0 a1 a3 (a4 + nI 1) ph
theorem r_Memory_nearest_72 {l : Launch} {g : px_G} {d F : Nat} {k5 : Nat → Int64 → Int32 → Int32 → px_H → Option (Int32 × px_H)} (hk5 : ∀ {a0 : Nat} {a1 : Int64} {a3 : Int32} {a4 : Int32} {ph : px_H} {r : Int32} {ph' : px_H}, k5 a0 a1 a3 a4 ph = some (r, ph') → PW l g (d + 3) m_Memory_nearest 5 [.ref a0, .long a1, px_u, .int a3, .int a4, px_u] [] ph (px_qI r ph')) {a0 : Nat} {a1 : Int64} {a3 : Int32} {a4 : Int32} {ph : px_H} {r : Int32} {ph' : px_H} (h : f_Memory_nearest_72 F (px_ct g) k5 a0 a1 a3 a4 ph = some (r, ph')) : PW l g (d + 3) m_Memory_nearest 72 [.ref a0, .long a1, px_u, .int a3, .int a4, px_u] [] ph (px_qI r ph') := by
  unfold f_Memory_nearest_72 at h
  refine px_iinc (lv' := [_, _, _, _, _, _]) rfl rfl rfl rfl rfl rfl ?_
  refine px_goto rfl rfl rfl ?_
  exact (hk5 h :)
def f_Memory_nearest_60 (F : Nat) (c : px_CT) (k5 : Nat → Int64 → Int32 → Int32 → px_H → Option (Int32 × px_H)) (a0 : Nat) (a1 : Int64) (a3 : Int32) (a4 : Int32) (ph : px_H) : Option (Int32 × px_H) :=
  (xo ph 4 a0).bind fun _ =>
  xb (f_Memory_isName F c a0 a4 ph) fun t1 ph2 =>
  if t1 = 0 then
    f_Memory_nearest_72 F c k5 a0 a1 a3 a4 ph2
  else
    f_Memory_nearest_72 F c k5 a0 a1 a4 a4 ph2
theorem r_Memory_nearest_60 {l : Launch} {g : px_G} {d F : Nat} {k5 : Nat → Int64 → Int32 → Int32 → px_H → Option (Int32 × px_H)} (hk5 : ∀ {a0 : Nat} {a1 : Int64} {a3 : Int32} {a4 : Int32} {ph : px_H} {r : Int32} {ph' : px_H}, k5 a0 a1 a3 a4 ph = some (r, ph') → PW l g (d + 3) m_Memory_nearest 5 [.ref a0, .long a1, px_u, .int a3, .int a4, px_u] [] ph (px_qI r ph')) {a0 : Nat} {a1 : Int64} {a3 : Int32} {a4 : Int32} {ph : px_H} {r : Int32} {ph' : px_H} (h : f_Memory_nearest_60 F (px_ct g) k5 a0 a1 a3 a4 ph = some (r, ph')) : PW l g (d + 3) m_Memory_nearest 60 [.ref a0, .long a1, px_u, .int a3, .int a4, px_u] [] ph (px_qI r ph') := by
  unfold f_Memory_nearest_60 at h
  refine px_ld rfl rfl rfl rfl rfl ?_
  refine px_ld rfl rfl rfl rfl rfl ?_
  obtain ⟨fs, h0, h⟩ := xs_some h
  have e1 := xo_some h0
  obtain ⟨t1, ph2, h0, h⟩ := xb_some h
  refine px_cV1 rfl rfl e1 rfl rfl rfl rfl rfl rfl rfl (r_Memory_isName h0 :) (fun _ _ q => nomatch q.2) (fun r ph' q => ?_)
  obtain ⟨rfl, q⟩ := q
  cases q
  refine px_ifeq rfl rfl rfl (fun hc => ?_) (fun hc => ?_)
  · replace h := (if_pos hc).symm.trans h
    exact (r_Memory_nearest_72 @hk5 h :)
  · replace h := (if_neg hc).symm.trans h
    refine px_ld rfl rfl rfl rfl rfl ?_
    refine px_st (lv' := [_, _, _, _, _, _]) rfl rfl rfl rfl rfl rfl rfl ?_
    exact (r_Memory_nearest_72 @hk5 h :)
def f_Memory_nearest_32 (F : Nat) (c : px_CT) (k5 : Nat → Int64 → Int32 → Int32 → px_H → Option (Int32 × px_H)) (a0 : Nat) (a1 : Int64) (a3 : Int32) (a4 : Int32) (s0 : Int32) (ph : px_H) : Option (Int32 × px_H) :=
  if s0 = 0 then
    f_Memory_nearest_72 F c k5 a0 a1 a3 a4 ph
  else
    if a3 < 0 then
      f_Memory_nearest_60 F c k5 a0 a1 a3 a4 ph
    else
      (xo ph 4 a0).bind fun _ =>
      xb (f_Memory_valueOf F c a0 a4 ph) fun t1 ph2 =>
      (xo ph2 4 a0).bind fun _ =>
      xb (f_Memory_valueOf F c a0 a3 ph2) fun t3 ph4 =>
      xb (f_H_above F c t1 t3 ph4) fun t5 ph6 =>
      if t5 = 0 then
        f_Memory_nearest_72 F c k5 a0 a1 a3 a4 ph6
      else
        f_Memory_nearest_60 F c k5 a0 a1 a3 a4 ph6
theorem r_Memory_nearest_32 {l : Launch} {g : px_G} {d F : Nat} {k5 : Nat → Int64 → Int32 → Int32 → px_H → Option (Int32 × px_H)} (hk5 : ∀ {a0 : Nat} {a1 : Int64} {a3 : Int32} {a4 : Int32} {ph : px_H} {r : Int32} {ph' : px_H}, k5 a0 a1 a3 a4 ph = some (r, ph') → PW l g (d + 3) m_Memory_nearest 5 [.ref a0, .long a1, px_u, .int a3, .int a4, px_u] [] ph (px_qI r ph')) {a0 : Nat} {a1 : Int64} {a3 : Int32} {a4 : Int32} {s0 : Int32} {ph : px_H} {r : Int32} {ph' : px_H} (h : f_Memory_nearest_32 F (px_ct g) k5 a0 a1 a3 a4 s0 ph = some (r, ph')) : PW l g (d + 3) m_Memory_nearest 32 [.ref a0, .long a1, px_u, .int a3, .int a4, px_u] [.int s0] ph (px_qI r ph') := by
  unfold f_Memory_nearest_32 at h
  refine px_st (lv' := [_, _, _, _, _, _]) rfl rfl rfl rfl rfl rfl rfl ?_
  refine px_ld rfl rfl rfl rfl rfl ?_
  refine px_ifeq rfl rfl rfl (fun hc => ?_) (fun hc => ?_)
  · replace h := (if_pos hc).symm.trans h
    refine px_forget (n := 5) (lv' := [_, _, _, _, _, _]) rfl ?_
    exact (r_Memory_nearest_72 @hk5 h :)
  · replace h := (if_neg hc).symm.trans h
    refine px_ld rfl rfl rfl rfl rfl ?_
    refine px_iflt rfl rfl rfl (fun hc => ?_) (fun hc => ?_)
    · replace h := (if_pos hc).symm.trans h
      refine px_forget (n := 5) (lv' := [_, _, _, _, _, _]) rfl ?_
      exact (r_Memory_nearest_60 @hk5 h :)
    · replace h := (if_neg hc).symm.trans h
      refine px_ld rfl rfl rfl rfl rfl ?_
      refine px_ld rfl rfl rfl rfl rfl ?_
      obtain ⟨fs, h0, h⟩ := xs_some h
      have e1 := xo_some h0
      obtain ⟨t1, ph2, h0, h⟩ := xb_some h
      refine px_cV1 rfl rfl e1 rfl rfl rfl rfl rfl rfl rfl (r_Memory_valueOf h0 :) (fun _ _ q => nomatch q.2) (fun r ph' q => ?_)
      obtain ⟨rfl, q⟩ := q
      cases q
      refine px_ld rfl rfl rfl rfl rfl ?_
      refine px_ld rfl rfl rfl rfl rfl ?_
      obtain ⟨fs, h0, h⟩ := xs_some h
      have e1 := xo_some h0
      obtain ⟨t3, ph4, h0, h⟩ := xb_some h
      refine px_cV1 rfl rfl e1 rfl rfl rfl rfl rfl rfl rfl (r_Memory_valueOf h0 :) (fun _ _ q => nomatch q.2) (fun r ph' q => ?_)
      obtain ⟨rfl, q⟩ := q
      cases q
      obtain ⟨t5, ph6, h0, h⟩ := xb_some h
      refine px_cS2 rfl rfl rfl rfl rfl rfl rfl (r_H_above h0 :) (fun _ _ q => nomatch q.2) (fun r ph' q => ?_)
      obtain ⟨rfl, q⟩ := q
      cases q
      refine px_ifeq rfl rfl rfl (fun hc => ?_) (fun hc => ?_)
      · replace h := (if_pos hc).symm.trans h
        refine px_forget (n := 5) (lv' := [_, _, _, _, _, _]) rfl ?_
        exact (r_Memory_nearest_72 @hk5 h :)
      · replace h := (if_neg hc).symm.trans h
        refine px_forget (n := 5) (lv' := [_, _, _, _, _, _]) rfl ?_
        exact (r_Memory_nearest_60 @hk5 h :)
def f_Memory_nearest_5 (F : Nat) (c : px_CT) : Nat → Nat → Int64 → Int32 → Int32 → px_H → Option (Int32 × px_H)
  | 0, _, _, _, _, _ => none
  | n + 1, a0, a1, a3, a4, ph =>
    (xgI ph 4 9 a0).bind fun t1 =>
    if t1 ≤ a4 then
      f_Memory_nearest_78 F c a3 ph
    else
      (xo ph 4 a0).bind fun _ =>
      xb (f_Memory_valueOf F c a0 a4 ph) fun t2 ph3 =>
      xb (f_H_above F c t2 a1 ph3) fun t4 ph5 =>
      if t4 = 0 then
        f_Memory_nearest_32 F c (f_Memory_nearest_5 F c n) a0 a1 a3 a4 (nI 1) ph5
      else
        f_Memory_nearest_32 F c (f_Memory_nearest_5 F c n) a0 a1 a3 a4 (nI 0) ph5
theorem r_Memory_nearest_5 {l : Launch} {g : px_G} {d F : Nat} : ∀ (n : Nat) {a0 : Nat} {a1 : Int64} {a3 : Int32} {a4 : Int32} {ph : px_H} {r : Int32} {ph' : px_H}, f_Memory_nearest_5 F (px_ct g) n a0 a1 a3 a4 ph = some (r, ph') → PW l g (d + 3) m_Memory_nearest 5 [.ref a0, .long a1, px_u, .int a3, .int a4, px_u] [] ph (px_qI r ph') := by
  intro n
  induction n with
  | zero => intro _ _ _ _ _ _ _ h; cases h
  | succ n ih =>
    intro a0 a1 a3 a4 ph r ph' h
    unfold f_Memory_nearest_5 at h
    refine px_ld rfl rfl rfl rfl rfl ?_
    refine px_ld rfl rfl rfl rfl rfl ?_
    obtain ⟨t1, h0, h⟩ := xs_some h
    obtain ⟨fs, e1, e2⟩ := xgI_some h0
    refine px_get rfl e1 e2 rfl ?_
    refine px_icge rfl rfl rfl (fun hc => ?_) (fun hc => ?_)
    · replace h := (if_pos hc).symm.trans h
      refine px_forget (n := 0) (lv' := [_, _, _, _, _, _]) rfl ?_
      refine px_forget (n := 1) (lv' := [_, _, _, _, _, _]) rfl ?_
      refine px_forget (n := 4) (lv' := [_, _, _, _, _, _]) rfl ?_
      exact (r_Memory_nearest_78 h :)
    · replace h := (if_neg hc).symm.trans h
      refine px_ld rfl rfl rfl rfl rfl ?_
      refine px_ld rfl rfl rfl rfl rfl ?_
      obtain ⟨fs, h0, h⟩ := xs_some h
      have e1 := xo_some h0
      obtain ⟨t2, ph3, h0, h⟩ := xb_some h
      refine px_cV1 rfl rfl e1 rfl rfl rfl rfl rfl rfl rfl (r_Memory_valueOf h0 :) (fun _ _ q => nomatch q.2) (fun r ph' q => ?_)
      obtain ⟨rfl, q⟩ := q
      cases q
      refine px_ld rfl rfl rfl rfl rfl ?_
      obtain ⟨t4, ph5, h0, h⟩ := xb_some h
      refine px_cS2 rfl rfl rfl rfl rfl rfl rfl (r_H_above h0 :) (fun _ _ q => nomatch q.2) (fun r ph' q => ?_)
      obtain ⟨rfl, q⟩ := q
      cases q
      refine px_ifne rfl rfl rfl (fun hc => ?_) (fun hc => ?_)
      · replace h := (if_neg hc).symm.trans h
        refine px_ic (k := 0) rfl rfl rfl ?_
        exact (r_Memory_nearest_32 @ih h :)
      · replace h := (if_pos hc).symm.trans h
        refine px_ic (k := 1) rfl rfl rfl ?_
        refine px_goto rfl rfl rfl ?_
        exact (r_Memory_nearest_32 @ih h :)
def f_Memory_nearest (F : Nat) (c : px_CT) (a0 : Nat) (a1 : Int64) (ph : px_H) : Option (Int32 × px_H) :=
  f_Memory_nearest_5 F c F a0 a1 (Int32.ofInt (-1)) (nI 1) ph
theorem r_Memory_nearest {l : Launch} {g : px_G} {d F : Nat} {a0 : Nat} {a1 : Int64} {ph : px_H} {r : Int32} {ph' : px_H} (h : f_Memory_nearest F (px_ct g) a0 a1 ph = some (r, ph')) : PW l g (d + 3) m_Memory_nearest 0 [.ref a0, .long a1, px_u, px_u, px_u, px_u] [] ph (px_qI r ph') := by
  unfold f_Memory_nearest at h
  refine px_alu rfl rfl rfl ?_
  refine px_st (lv' := [_, _, _, _, _, _]) rfl rfl rfl rfl rfl rfl rfl ?_
  refine px_ic (k := 1) rfl rfl rfl ?_
  refine px_st (lv' := [_, _, _, _, _, _]) rfl rfl rfl rfl rfl rfl rfl ?_
  exact (r_Memory_nearest_5 _ h :)
def f_Memory_nameStart (F : Nat) (c : px_CT) (a0 : Nat) (a1 : Int32) (ph : px_H) : Option (Int32 × px_H) :=
  (xgI ph 4 10 a0).bind fun t1 =>
  (xgR ph 4 0 a0).bind fun t2 =>
  (xgI ph 4 8 a0).bind fun t3 =>
  (xo ph 10 t2).bind fun _ =>
  xb (f_Row_num F c t2 (t3 + ((nI 24) * a1)) (nI 4) ph) fun t4 ph5 =>
  some (t1 + t4.toInt32, ph5)
theorem r_Memory_nameStart {l : Launch} {g : px_G} {d F : Nat} {a0 : Nat} {a1 : Int32} {ph : px_H} {r : Int32} {ph' : px_H} (h : f_Memory_nameStart F (px_ct g) a0 a1 ph = some (r, ph')) : PW l g (d + 2) m_Memory_nameStart 0 [.ref a0, .int a1] [] ph (px_qI r ph') := by
  unfold f_Memory_nameStart at h
  refine px_ld rfl rfl rfl rfl rfl ?_
  obtain ⟨t1, h0, h⟩ := xs_some h
  obtain ⟨fs, e1, e2⟩ := xgI_some h0
  refine px_get rfl e1 e2 rfl ?_
  refine px_ld rfl rfl rfl rfl rfl ?_
  obtain ⟨t2, h0, h⟩ := xs_some h
  obtain ⟨fs, e1, e2⟩ := xgR_some h0
  refine px_get rfl e1 e2 rfl ?_
  refine px_ld rfl rfl rfl rfl rfl ?_
  obtain ⟨t3, h0, h⟩ := xs_some h
  obtain ⟨fs, e1, e2⟩ := xgI_some h0
  refine px_get rfl e1 e2 rfl ?_
  refine px_ic (k := 24) rfl rfl rfl ?_
  refine px_ld rfl rfl rfl rfl rfl ?_
  refine px_alu rfl rfl rfl ?_
  refine px_alu rfl rfl rfl ?_
  refine px_ic (k := 4) rfl rfl rfl ?_
  obtain ⟨fs, h0, h⟩ := xs_some h
  have e1 := xo_some h0
  obtain ⟨t4, ph5, h0, h⟩ := xb_some h
  refine px_cV2 rfl rfl e1 rfl rfl rfl rfl rfl rfl rfl (r_Row_num h0 :) (fun _ _ q => nomatch q.2) (fun r ph' q => ?_)
  obtain ⟨rfl, q⟩ := q
  cases q
  refine px_alu rfl rfl rfl ?_
  refine px_alu rfl rfl rfl ?_
  cases h
  exact px_iret rfl (Or.inl rfl) rfl ⟨rfl, rfl⟩
def f_H_near_23 (F : Nat) (c : px_CT) (a0 : Nat) (a1 : Int64) (s0 : Int32) (ph : px_H) : Option (Int64 × px_H) :=
  if 0 ≤ s0 then
    (xgR ph 0 10 a0).bind fun t1 =>
    (xgR ph 0 16 a0).bind fun t2 =>
    (xgR ph 4 0 t2).bind fun t3 =>
    (xgR ph 0 16 a0).bind fun t4 =>
    (xo ph 4 t4).bind fun _ =>
    xb (f_Memory_nameStart F c t4 s0 ph) fun t5 ph6 =>
    (xo ph6 5 t1).bind fun _ =>
    xb (f_Name_read F c t1 t3 t5 ph6) fun _ ph7 =>
    (xgR ph7 0 1 a0).bind fun t8 =>
    (xo ph7 10 t8).bind fun _ =>
    xb (f_Row_clear F c t8 ph7) fun _ ph9 =>
    (xgR ph9 0 10 a0).bind fun t10 =>
    (xgR ph9 0 1 a0).bind fun t11 =>
    (xo ph9 5 t10).bind fun _ =>
    xb (f_Name_writeTo F c t10 t11 ph9) fun _ ph12 =>
    (xgR ph12 0 16 a0).bind fun t13 =>
    (xo ph12 4 t13).bind fun _ =>
    xb (f_Memory_valueOf F c t13 s0 ph12) fun t14 ph15 =>
    some (a1 - t14, ph15)
  else
    some ((-1 : Int64), ph)
theorem r_H_near_23 {l : Launch} {g : px_G} {d F : Nat} {a0 : Nat} {a1 : Int64} {s0 : Int32} {ph : px_H} {r : Int64} {ph' : px_H} (h : f_H_near_23 F (px_ct g) a0 a1 s0 ph = some (r, ph')) : PW l g (d + 4) m_H_near 23 [.ref a0, .long a1, px_u, px_u] [.int s0] ph (px_qJ r ph') := by
  unfold f_H_near_23 at h
  refine px_st (lv' := [_, _, _, _]) rfl rfl rfl rfl rfl rfl rfl ?_
  refine px_ld rfl rfl rfl rfl rfl ?_
  refine px_ifge rfl rfl rfl (fun hc => ?_) (fun hc => ?_)
  · replace h := (if_pos hc).symm.trans h
    refine px_ld rfl rfl rfl rfl rfl ?_
    obtain ⟨t1, h0, h⟩ := xs_some h
    obtain ⟨fs, e1, e2⟩ := xgR_some h0
    refine px_get rfl e1 e2 rfl ?_
    refine px_ld rfl rfl rfl rfl rfl ?_
    obtain ⟨t2, h0, h⟩ := xs_some h
    obtain ⟨fs, e1, e2⟩ := xgR_some h0
    refine px_get rfl e1 e2 rfl ?_
    obtain ⟨t3, h0, h⟩ := xs_some h
    obtain ⟨fs, e1, e2⟩ := xgR_some h0
    refine px_get rfl e1 e2 rfl ?_
    refine px_ld rfl rfl rfl rfl rfl ?_
    obtain ⟨t4, h0, h⟩ := xs_some h
    obtain ⟨fs, e1, e2⟩ := xgR_some h0
    refine px_get rfl e1 e2 rfl ?_
    refine px_ld rfl rfl rfl rfl rfl ?_
    obtain ⟨fs, h0, h⟩ := xs_some h
    have e1 := xo_some h0
    obtain ⟨t5, ph6, h0, h⟩ := xb_some h
    refine px_cV1 rfl rfl e1 rfl rfl rfl rfl rfl rfl rfl (r_Memory_nameStart h0 :) (fun _ _ q => nomatch q.2) (fun r ph' q => ?_)
    obtain ⟨rfl, q⟩ := q
    cases q
    obtain ⟨fs, h0, h⟩ := xs_some h
    have e1 := xo_some h0
    obtain ⟨u0, ph7, h0, h⟩ := xb_some h
    refine px_cV2 rfl rfl e1 rfl rfl rfl rfl rfl rfl rfl (r_Name_read h0 :) (fun _ _ q => nomatch q.2) (fun r ph' q => ?_)
    obtain ⟨rfl, q⟩ := q
    cases q
    refine px_ld rfl rfl rfl rfl rfl ?_
    obtain ⟨t8, h0, h⟩ := xs_some h
    obtain ⟨fs, e1, e2⟩ := xgR_some h0
    refine px_get rfl e1 e2 rfl ?_
    obtain ⟨fs, h0, h⟩ := xs_some h
    have e1 := xo_some h0
    obtain ⟨u0, ph9, h0, h⟩ := xb_some h
    refine px_cV0 rfl rfl e1 rfl rfl rfl rfl rfl rfl rfl (r_Row_clear h0 :) (fun _ _ q => nomatch q.2) (fun r ph' q => ?_)
    obtain ⟨rfl, q⟩ := q
    cases q
    refine px_ld rfl rfl rfl rfl rfl ?_
    obtain ⟨t10, h0, h⟩ := xs_some h
    obtain ⟨fs, e1, e2⟩ := xgR_some h0
    refine px_get rfl e1 e2 rfl ?_
    refine px_ld rfl rfl rfl rfl rfl ?_
    obtain ⟨t11, h0, h⟩ := xs_some h
    obtain ⟨fs, e1, e2⟩ := xgR_some h0
    refine px_get rfl e1 e2 rfl ?_
    obtain ⟨fs, h0, h⟩ := xs_some h
    have e1 := xo_some h0
    obtain ⟨u0, ph12, h0, h⟩ := xb_some h
    refine px_cV1 rfl rfl e1 rfl rfl rfl rfl rfl rfl rfl (r_Name_writeTo h0 :) (fun _ _ q => nomatch q.2) (fun r ph' q => ?_)
    obtain ⟨rfl, q⟩ := q
    cases q
    refine px_ld rfl rfl rfl rfl rfl ?_
    refine px_ld rfl rfl rfl rfl rfl ?_
    obtain ⟨t13, h0, h⟩ := xs_some h
    obtain ⟨fs, e1, e2⟩ := xgR_some h0
    refine px_get rfl e1 e2 rfl ?_
    refine px_ld rfl rfl rfl rfl rfl ?_
    obtain ⟨fs, h0, h⟩ := xs_some h
    have e1 := xo_some h0
    obtain ⟨t14, ph15, h0, h⟩ := xb_some h
    refine px_cV1 rfl rfl e1 rfl rfl rfl rfl rfl rfl rfl (r_Memory_valueOf h0 :) (fun _ _ q => nomatch q.2) (fun r ph' q => ?_)
    obtain ⟨rfl, q⟩ := q
    cases q
    refine px_alu rfl rfl rfl ?_
    cases h
    exact px_lret rfl rfl rfl ⟨rfl, rfl⟩
  · replace h := (if_neg hc).symm.trans h
    refine px_ldc2 rfl rfl rfl ?_
    cases h
    exact px_lret rfl rfl rfl ⟨rfl, rfl⟩
def f_H_near (F : Nat) (c : px_CT) (a0 : Nat) (a1 : Int64) (ph : px_H) : Option (Int64 × px_H) :=
  (xgR ph 0 16 a0).bind fun t1 =>
  (xo ph 4 t1).bind fun _ =>
  xb (f_Memory_rowAt F c t1 a1 ph) fun t2 ph3 =>
  if 0 ≤ t2 then
    (xgR ph3 0 16 a0).bind fun t4 =>
    (xo ph3 4 t4).bind fun _ =>
    xb (f_Memory_nearest F c t4 a1 ph3) fun t5 ph6 =>
    f_H_near_23 F c a0 a1 t5 ph6
  else
    f_H_near_23 F c a0 a1 (Int32.ofInt (-1)) ph3
theorem r_H_near {l : Launch} {g : px_G} {d F : Nat} {a0 : Nat} {a1 : Int64} {ph : px_H} {r : Int64} {ph' : px_H} (h : f_H_near F (px_ct g) a0 a1 ph = some (r, ph')) : PW l g (d + 4) m_H_near 0 [.ref a0, .long a1, px_u, px_u] [] ph (px_qJ r ph') := by
  unfold f_H_near at h
  refine px_ld rfl rfl rfl rfl rfl ?_
  obtain ⟨t1, h0, h⟩ := xs_some h
  obtain ⟨fs, e1, e2⟩ := xgR_some h0
  refine px_get rfl e1 e2 rfl ?_
  refine px_ld rfl rfl rfl rfl rfl ?_
  obtain ⟨fs, h0, h⟩ := xs_some h
  have e1 := xo_some h0
  obtain ⟨t2, ph3, h0, h⟩ := xb_some h
  refine px_cV1 rfl rfl e1 rfl rfl rfl rfl rfl rfl rfl (r_Memory_rowAt h0 :) (fun _ _ q => nomatch q.2) (fun r ph' q => ?_)
  obtain ⟨rfl, q⟩ := q
  cases q
  refine px_ifge rfl rfl rfl (fun hc => ?_) (fun hc => ?_)
  · replace h := (if_pos hc).symm.trans h
    refine px_ld rfl rfl rfl rfl rfl ?_
    obtain ⟨t4, h0, h⟩ := xs_some h
    obtain ⟨fs, e1, e2⟩ := xgR_some h0
    refine px_get rfl e1 e2 rfl ?_
    refine px_ld rfl rfl rfl rfl rfl ?_
    obtain ⟨fs, h0, h⟩ := xs_some h
    have e1 := xo_some h0
    obtain ⟨t5, ph6, h0, h⟩ := xb_some h
    refine px_cV1 rfl rfl e1 rfl rfl rfl rfl rfl rfl rfl (r_Memory_nearest h0 :) (fun _ _ q => nomatch q.2) (fun r ph' q => ?_)
    obtain ⟨rfl, q⟩ := q
    cases q
    exact (r_H_near_23 h :)
  · replace h := (if_neg hc).symm.trans h
    refine px_alu rfl rfl rfl ?_
    refine px_goto rfl rfl rfl ?_
    exact (r_H_near_23 h :)
def f_Row_begins_27 (F : Nat) (c : px_CT) (ph : px_H) : Option (Int32 × px_H) :=
  some (nI 1, ph)
theorem r_Row_begins_27 {l : Launch} {g : px_G} {d F : Nat} {ph : px_H} {r : Int32} {ph' : px_H} (h : f_Row_begins_27 F (px_ct g) ph = some (r, ph')) : PW l g (d + 1) m_Row_begins 27 [px_u, px_u, px_u] [] ph (px_qI r ph') := by
  unfold f_Row_begins_27 at h
  refine px_ic (k := 1) rfl rfl rfl ?_
  cases h
  exact px_iret rfl (Or.inr ⟨rfl, Or.inr rfl⟩) rfl ⟨rfl, rfl⟩
def f_Row_begins_19 (F : Nat) (c : px_CT) (ph : px_H) : Option (Int32 × px_H) :=
  some (nI 0, ph)
theorem r_Row_begins_19 {l : Launch} {g : px_G} {d F : Nat} {ph : px_H} {r : Int32} {ph' : px_H} (h : f_Row_begins_19 F (px_ct g) ph = some (r, ph')) : PW l g (d + 1) m_Row_begins 19 [px_u, px_u, px_u] [] ph (px_qI r ph') := by
  unfold f_Row_begins_19 at h
  refine px_ic (k := 0) rfl rfl rfl ?_
  cases h
  exact px_iret rfl (Or.inr ⟨rfl, Or.inl rfl⟩) rfl ⟨rfl, rfl⟩
def f_Row_begins_2 (F : Nat) (c : px_CT) : Nat → Nat → Nat → Int32 → px_H → Option (Int32 × px_H)
  | 0, _, _, _, _ => none
  | n + 1, a0, a1, a2, ph =>
    (xkl c a1).bind fun t1 =>
    if t1 ≤ a2 then
      f_Row_begins_27 F c ph
    else
      (xo ph 10 a0).bind fun _ =>
      xb (f_Row_at F c a0 a2 ph) fun t2 ph3 =>
      (xkB c a1 a2).bind fun t4 =>
      if t2 = t4 then
        f_Row_begins_2 F c n a0 a1 (a2 + nI 1) ph3
      else
        f_Row_begins_19 F c ph3
theorem r_Row_begins_2 {l : Launch} {g : px_G} {d F : Nat} : ∀ (n : Nat) {a0 : Nat} {a1 : Nat} {a2 : Int32} {ph : px_H} {r : Int32} {ph' : px_H}, f_Row_begins_2 F (px_ct g) n a0 a1 a2 ph = some (r, ph') → PW l g (d + 1) m_Row_begins 2 [.ref a0, .retAddr a1, .int a2] [] ph (px_qI r ph') := by
  intro n
  induction n with
  | zero => intro _ _ _ _ _ _ h; cases h
  | succ n ih =>
    intro a0 a1 a2 ph r ph' h
    unfold f_Row_begins_2 at h
    refine px_ld rfl rfl rfl rfl rfl ?_
    refine px_ld rfl rfl rfl rfl rfl ?_
    obtain ⟨t1, h0, h⟩ := xs_some h
    obtain ⟨e0, e3⟩ := xkl_some h0
    subst e3
    refine px_clen rfl e0 rfl ?_
    refine px_icge rfl rfl rfl (fun hc => ?_) (fun hc => ?_)
    · replace h := (if_pos hc).symm.trans h
      refine px_forget (n := 0) (lv' := [_, _, _]) rfl ?_
      refine px_forget (n := 1) (lv' := [_, _, _]) rfl ?_
      refine px_forget (n := 2) (lv' := [_, _, _]) rfl ?_
      exact (r_Row_begins_27 h :)
    · replace h := (if_neg hc).symm.trans h
      refine px_ld rfl rfl rfl rfl rfl ?_
      refine px_ld rfl rfl rfl rfl rfl ?_
      obtain ⟨fs, h0, h⟩ := xs_some h
      have e1 := xo_some h0
      obtain ⟨t2, ph3, h0, h⟩ := xb_some h
      refine px_cV1 rfl rfl e1 rfl rfl rfl rfl rfl rfl rfl (r_Row_at h0 :) (fun _ _ q => nomatch q.2) (fun r ph' q => ?_)
      obtain ⟨rfl, q⟩ := q
      cases q
      refine px_ld rfl rfl rfl rfl rfl ?_
      refine px_ld rfl rfl rfl rfl rfl ?_
      obtain ⟨t4, h0, h⟩ := xs_some h
      obtain ⟨e0, e1, e2, e3⟩ := xkB_some h0
      subst e3
      refine px_cbld rfl e0 e1 e2 rfl ?_
      refine px_iceq rfl rfl rfl (fun hc => ?_) (fun hc => ?_)
      · replace h := (if_pos hc).symm.trans h
        refine px_iinc (lv' := [_, _, _]) rfl rfl rfl rfl rfl rfl ?_
        refine px_goto rfl rfl rfl ?_
        exact (ih h :)
      · replace h := (if_neg hc).symm.trans h
        refine px_forget (n := 0) (lv' := [_, _, _]) rfl ?_
        refine px_forget (n := 1) (lv' := [_, _, _]) rfl ?_
        refine px_forget (n := 2) (lv' := [_, _, _]) rfl ?_
        exact (r_Row_begins_19 h :)
def f_Row_begins (F : Nat) (c : px_CT) (a0 : Nat) (a1 : Nat) (ph : px_H) : Option (Int32 × px_H) :=
  f_Row_begins_2 F c F a0 a1 (nI 0) ph
theorem r_Row_begins {l : Launch} {g : px_G} {d F : Nat} {a0 : Nat} {a1 : Nat} {ph : px_H} {r : Int32} {ph' : px_H} (h : f_Row_begins F (px_ct g) a0 a1 ph = some (r, ph')) : PW l g (d + 1) m_Row_begins 0 [.ref a0, .retAddr a1, px_u] [] ph (px_qI r ph') := by
  unfold f_Row_begins at h
  refine px_ic (k := 0) rfl rfl rfl ?_
  refine px_st (lv' := [_, _, _]) rfl rfl rfl rfl rfl rfl rfl ?_
  exact (r_Row_begins_2 _ h :)
def f_Row_holds_31 (F : Nat) (c : px_CT) (s0 : Int32) (ph : px_H) : Option (Int32 × px_H) :=
  xz s0 ph
theorem r_Row_holds_31 {l : Launch} {g : px_G} {d F : Nat} {s0 : Int32} {ph : px_H} {r : Int32} {ph' : px_H} (h : f_Row_holds_31 F (px_ct g) s0 ph = some (r, ph')) : PW l g (d + 1) m_Row_holds 31 [px_u, px_u, px_u, px_u, px_u] [.int s0] ph (px_qI r ph') := by
  unfold f_Row_holds_31 at h
  obtain ⟨e0, e1, e2⟩ := xz_some h
  subst e1 e2
  exact px_iret rfl (Or.inr ⟨rfl, e0⟩) rfl ⟨rfl, rfl⟩
def f_Row_holds_30 (F : Nat) (c : px_CT) (ph : px_H) : Option (Int32 × px_H) :=
  f_Row_holds_31 F c (nI 0) ph
theorem r_Row_holds_30 {l : Launch} {g : px_G} {d F : Nat} {ph : px_H} {r : Int32} {ph' : px_H} (h : f_Row_holds_30 F (px_ct g) ph = some (r, ph')) : PW l g (d + 1) m_Row_holds 30 [px_u, px_u, px_u, px_u, px_u] [] ph (px_qI r ph') := by
  unfold f_Row_holds_30 at h
  refine px_ic (k := 0) rfl rfl rfl ?_
  exact (r_Row_holds_31 h :)
def f_Row_holds (F : Nat) (c : px_CT) (a0 : Nat) (a1 : Int64) (a3 : Int64) (ph : px_H) : Option (Int32 × px_H) :=
  (xgI ph 10 1 a0).bind fun t1 =>
  xb (f_H_above F c a1 t1.toInt64 ph) fun t2 ph3 =>
  if t2 = 0 then
    (xgI ph3 10 1 a0).bind fun t4 =>
    xb (f_H_above F c a3 (t4.toInt64 - a1) ph3) fun t5 ph6 =>
    if t5 = 0 then
      f_Row_holds_31 F c (nI 1) ph6
    else
      f_Row_holds_30 F c ph6
  else
    f_Row_holds_30 F c ph3
theorem r_Row_holds {l : Launch} {g : px_G} {d F : Nat} {a0 : Nat} {a1 : Int64} {a3 : Int64} {ph : px_H} {r : Int32} {ph' : px_H} (h : f_Row_holds F (px_ct g) a0 a1 a3 ph = some (r, ph')) : PW l g (d + 1) m_Row_holds 0 [.ref a0, .long a1, px_u, .long a3, px_u] [] ph (px_qI r ph') := by
  unfold f_Row_holds at h
  refine px_ld rfl rfl rfl rfl rfl ?_
  refine px_ld rfl rfl rfl rfl rfl ?_
  obtain ⟨t1, h0, h⟩ := xs_some h
  obtain ⟨fs, e1, e2⟩ := xgI_some h0
  refine px_get rfl e1 e2 rfl ?_
  refine px_alu rfl rfl rfl ?_
  obtain ⟨t2, ph3, h0, h⟩ := xb_some h
  refine px_cS2 rfl rfl rfl rfl rfl rfl rfl (r_H_above h0 :) (fun _ _ q => nomatch q.2) (fun r ph' q => ?_)
  obtain ⟨rfl, q⟩ := q
  cases q
  refine px_ifne rfl rfl rfl (fun hc => ?_) (fun hc => ?_)
  · replace h := (if_neg hc).symm.trans h
    refine px_forget (n := 0) (lv' := [_, _, _, _, _]) rfl ?_
    refine px_forget (n := 1) (lv' := [_, _, _, _, _]) rfl ?_
    refine px_forget (n := 3) (lv' := [_, _, _, _, _]) rfl ?_
    exact (r_Row_holds_30 h :)
  · replace h := (if_pos hc).symm.trans h
    refine px_ld rfl rfl rfl rfl rfl ?_
    refine px_ld rfl rfl rfl rfl rfl ?_
    obtain ⟨t4, h0, h⟩ := xs_some h
    obtain ⟨fs, e1, e2⟩ := xgI_some h0
    refine px_get rfl e1 e2 rfl ?_
    refine px_alu rfl rfl rfl ?_
    refine px_ld rfl rfl rfl rfl rfl ?_
    refine px_alu rfl rfl rfl ?_
    obtain ⟨t5, ph6, h0, h⟩ := xb_some h
    refine px_cS2 rfl rfl rfl rfl rfl rfl rfl (r_H_above h0 :) (fun _ _ q => nomatch q.2) (fun r ph' q => ?_)
    obtain ⟨rfl, q⟩ := q
    cases q
    refine px_ifne rfl rfl rfl (fun hc => ?_) (fun hc => ?_)
    · replace h := (if_neg hc).symm.trans h
      refine px_forget (n := 0) (lv' := [_, _, _, _, _]) rfl ?_
      refine px_forget (n := 1) (lv' := [_, _, _, _, _]) rfl ?_
      refine px_forget (n := 3) (lv' := [_, _, _, _, _]) rfl ?_
      exact (r_Row_holds_30 h :)
    · replace h := (if_pos hc).symm.trans h
      refine px_ic (k := 1) rfl rfl rfl ?_
      refine px_goto rfl rfl rfl ?_
      refine px_forget (n := 0) (lv' := [_, _, _, _, _]) rfl ?_
      refine px_forget (n := 1) (lv' := [_, _, _, _, _]) rfl ?_
      refine px_forget (n := 3) (lv' := [_, _, _, _, _]) rfl ?_
      exact (r_Row_holds_31 h :)
def f_Memory_rowError_153 (F : Nat) (c : px_CT) (s0 : Int32) (ph : px_H) : Option (Int32 × px_H) :=
  some (s0, ph)
theorem r_Memory_rowError_153 {l : Launch} {g : px_G} {d F : Nat} {s0 : Int32} {ph : px_H} {r : Int32} {ph' : px_H} (h : f_Memory_rowError_153 F (px_ct g) s0 ph = some (r, ph')) : PW l g (d + 2) m_Memory_rowError 153 [px_u, px_u, px_u, px_u, px_u, px_u, px_u, px_u, px_u, px_u, px_u, px_u, px_u, px_u] [.int s0] ph (px_qI r ph') := by
  unfold f_Memory_rowError_153 at h
  cases h
  exact px_iret rfl (Or.inl rfl) rfl ⟨rfl, rfl⟩
def f_Memory_rowError_141 (F : Nat) (c : px_CT) (a2 : Int64) (a6 : Int64) (ph : px_H) : Option (Int32 × px_H) :=
  if a2 ≤ a6 then
    f_Memory_rowError_153 F c (nI 0) ph
  else
    f_Memory_rowError_153 F c (nI 5) ph
theorem r_Memory_rowError_141 {l : Launch} {g : px_G} {d F : Nat} {a2 : Int64} {a6 : Int64} {ph : px_H} {r : Int32} {ph' : px_H} (h : f_Memory_rowError_141 F (px_ct g) a2 a6 ph = some (r, ph')) : PW l g (d + 2) m_Memory_rowError 141 [px_u, px_u, .long a2, px_u, px_u, px_u, .long a6, px_u, px_u, px_u, px_u, px_u, px_u, px_u] [] ph (px_qI r ph') := by
  unfold f_Memory_rowError_141 at h
  refine px_ld rfl rfl rfl rfl rfl ?_
  refine px_ld rfl rfl rfl rfl rfl ?_
  refine px_alu rfl rfl rfl ?_
  refine px_ifge rfl (by decide) rfl (fun hc => ?_) (fun hc => ?_)
  · replace h := (if_pos ((lg_cmp_ge _ _).mp hc)).symm.trans h
    refine px_ic (k := 0) rfl rfl rfl ?_
    refine px_forget (n := 2) (lv' := [_, _, _, _, _, _, _, _, _, _, _, _, _, _]) rfl ?_
    refine px_forget (n := 6) (lv' := [_, _, _, _, _, _, _, _, _, _, _, _, _, _]) rfl ?_
    exact (r_Memory_rowError_153 h :)
  · replace h := (if_neg (fun q => hc ((lg_cmp_ge _ _).mpr q))).symm.trans h
    refine px_ic (k := 5) rfl rfl rfl ?_
    refine px_goto rfl (by decide) rfl ?_
    refine px_forget (n := 2) (lv' := [_, _, _, _, _, _, _, _, _, _, _, _, _, _]) rfl ?_
    refine px_forget (n := 6) (lv' := [_, _, _, _, _, _, _, _, _, _, _, _, _, _]) rfl ?_
    exact (r_Memory_rowError_153 h :)
def f_Memory_rowError_139 (F : Nat) (c : px_CT) (ph : px_H) : Option (Int32 × px_H) :=
  some (nI 4, ph)
theorem r_Memory_rowError_139 {l : Launch} {g : px_G} {d F : Nat} {ph : px_H} {r : Int32} {ph' : px_H} (h : f_Memory_rowError_139 F (px_ct g) ph = some (r, ph')) : PW l g (d + 2) m_Memory_rowError 139 [px_u, px_u, px_u, px_u, px_u, px_u, px_u, px_u, px_u, px_u, px_u, px_u, px_u, px_u] [] ph (px_qI r ph') := by
  unfold f_Memory_rowError_139 at h
  refine px_ic (k := 4) rfl rfl rfl ?_
  cases h
  exact px_iret rfl (Or.inl rfl) rfl ⟨rfl, rfl⟩
def f_Memory_rowError (F : Nat) (c : px_CT) (a0 : Nat) (a1 : Int32) (a2 : Int64) (ph : px_H) : Option (Int32 × px_H) :=
  (xo ph 10 a0).bind fun _ =>
  xb (f_Row_num F c a0 (a1 + (nI 8)) (nI 8) ph) fun t1 ph2 =>
  (xo ph2 10 a0).bind fun _ =>
  xb (f_Row_num F c a0 (a1 + (nI 16)) (nI 8) ph2) fun t3 ph4 =>
  (xo ph4 10 a0).bind fun _ =>
  xb (f_Row_num F c a0 (a1 + (nI 32)) (nI 8) ph4) fun t5 ph6 =>
  (xo ph6 10 a0).bind fun _ =>
  xb (f_Row_num F c a0 (a1 + (nI 40)) (nI 8) ph6) fun t7 ph8 =>
  (xo ph8 10 a0).bind fun _ =>
  xb (f_Row_num F c a0 (a1 + (nI 48)) (nI 8) ph8) fun t9 ph10 =>
  (xo ph10 10 a0).bind fun _ =>
  xb (f_Row_holds F c a0 t1 t5 ph10) fun t11 ph12 =>
  if t11 = 0 then
    some (nI 3, ph12)
  else
    xb (f_H_above F c t5 t7 ph12) fun t13 ph14 =>
    if t13 = 0 then
      xb (f_H_above F c t7 ((65536 : Int64)) ph14) fun t15 ph16 =>
      if t15 = 0 then
        xb (f_H_above F c t3 ((140737488355328 : Int64)) ph16) fun t17 ph18 =>
        if t17 = 0 then
          if (t9 &&& (t9 - (lN 1))) = (lN 0) then
            if t9 = (lN 0) then
              f_Memory_rowError_141 F c a2 t3 ph18
            else
              if ((t3 - t1) &&& (t9 - (lN 1))) = (lN 0) then
                f_Memory_rowError_141 F c a2 t3 ph18
              else
                f_Memory_rowError_139 F c ph18
          else
            f_Memory_rowError_139 F c ph18
        else
          f_Memory_rowError_139 F c ph18
      else
        f_Memory_rowError_139 F c ph16
    else
      f_Memory_rowError_139 F c ph14
theorem r_Memory_rowError {l : Launch} {g : px_G} {d F : Nat} {a0 : Nat} {a1 : Int32} {a2 : Int64} {ph : px_H} {r : Int32} {ph' : px_H} (h : f_Memory_rowError F (px_ct g) a0 a1 a2 ph = some (r, ph')) : PW l g (d + 2) m_Memory_rowError 0 [.ref a0, .int a1, .long a2, px_u, px_u, px_u, px_u, px_u, px_u, px_u, px_u, px_u, px_u, px_u] [] ph (px_qI r ph') := by
  unfold f_Memory_rowError at h
  refine px_ld rfl rfl rfl rfl rfl ?_
  refine px_ld rfl rfl rfl rfl rfl ?_
  refine px_ic (k := 8) rfl rfl rfl ?_
  refine px_alu rfl rfl rfl ?_
  refine px_ic (k := 8) rfl rfl rfl ?_
  obtain ⟨fs, h0, h⟩ := xs_some h
  have e1 := xo_some h0
  obtain ⟨t1, ph2, h0, h⟩ := xb_some h
  refine px_cV2 rfl rfl e1 rfl rfl rfl rfl rfl rfl rfl (r_Row_num h0 :) (fun _ _ q => nomatch q.2) (fun r ph' q => ?_)
  obtain ⟨rfl, q⟩ := q
  cases q
  refine px_st (lv' := [_, _, _, _, _, _, _, _, _, _, _, _, _, _]) rfl rfl rfl rfl rfl rfl rfl ?_
  refine px_ld rfl rfl rfl rfl rfl ?_
  refine px_ld rfl rfl rfl rfl rfl ?_
  refine px_ic (k := 16) rfl rfl rfl ?_
  refine px_alu rfl rfl rfl ?_
  refine px_ic (k := 8) rfl rfl rfl ?_
  obtain ⟨fs, h0, h⟩ := xs_some h
  have e1 := xo_some h0
  obtain ⟨t3, ph4, h0, h⟩ := xb_some h
  refine px_cV2 rfl rfl e1 rfl rfl rfl rfl rfl rfl rfl (r_Row_num h0 :) (fun _ _ q => nomatch q.2) (fun r ph' q => ?_)
  obtain ⟨rfl, q⟩ := q
  cases q
  refine px_st (lv' := [_, _, _, _, _, _, _, _, _, _, _, _, _, _]) rfl rfl rfl rfl rfl rfl rfl ?_
  refine px_ld rfl rfl rfl rfl rfl ?_
  refine px_ld rfl rfl rfl rfl rfl ?_
  refine px_ic (k := 32) rfl rfl rfl ?_
  refine px_alu rfl rfl rfl ?_
  refine px_ic (k := 8) rfl rfl rfl ?_
  obtain ⟨fs, h0, h⟩ := xs_some h
  have e1 := xo_some h0
  obtain ⟨t5, ph6, h0, h⟩ := xb_some h
  refine px_cV2 rfl rfl e1 rfl rfl rfl rfl rfl rfl rfl (r_Row_num h0 :) (fun _ _ q => nomatch q.2) (fun r ph' q => ?_)
  obtain ⟨rfl, q⟩ := q
  cases q
  refine px_st (lv' := [_, _, _, _, _, _, _, _, _, _, _, _, _, _]) rfl rfl rfl rfl rfl rfl rfl ?_
  refine px_ld rfl rfl rfl rfl rfl ?_
  refine px_ld rfl rfl rfl rfl rfl ?_
  refine px_ic (k := 40) rfl rfl rfl ?_
  refine px_alu rfl rfl rfl ?_
  refine px_ic (k := 8) rfl rfl rfl ?_
  obtain ⟨fs, h0, h⟩ := xs_some h
  have e1 := xo_some h0
  obtain ⟨t7, ph8, h0, h⟩ := xb_some h
  refine px_cV2 rfl rfl e1 rfl rfl rfl rfl rfl rfl rfl (r_Row_num h0 :) (fun _ _ q => nomatch q.2) (fun r ph' q => ?_)
  obtain ⟨rfl, q⟩ := q
  cases q
  refine px_st (lv' := [_, _, _, _, _, _, _, _, _, _, _, _, _, _]) rfl rfl rfl rfl rfl rfl rfl ?_
  refine px_ld rfl rfl rfl rfl rfl ?_
  refine px_ld rfl rfl rfl rfl rfl ?_
  refine px_ic (k := 48) rfl rfl rfl ?_
  refine px_alu rfl rfl rfl ?_
  refine px_ic (k := 8) rfl rfl rfl ?_
  obtain ⟨fs, h0, h⟩ := xs_some h
  have e1 := xo_some h0
  obtain ⟨t9, ph10, h0, h⟩ := xb_some h
  refine px_cV2 rfl rfl e1 rfl rfl rfl rfl rfl rfl rfl (r_Row_num h0 :) (fun _ _ q => nomatch q.2) (fun r ph' q => ?_)
  obtain ⟨rfl, q⟩ := q
  cases q
  refine px_st (lv' := [_, _, _, _, _, _, _, _, _, _, _, _, _, _]) rfl rfl rfl rfl rfl rfl rfl ?_
  refine px_ld rfl rfl rfl rfl rfl ?_
  refine px_ld rfl rfl rfl rfl rfl ?_
  refine px_ld rfl rfl rfl rfl rfl ?_
  obtain ⟨fs, h0, h⟩ := xs_some h
  have e1 := xo_some h0
  obtain ⟨t11, ph12, h0, h⟩ := xb_some h
  refine px_cV2 rfl rfl e1 rfl rfl rfl rfl rfl rfl rfl (r_Row_holds h0 :) (fun _ _ q => nomatch q.2) (fun r ph' q => ?_)
  obtain ⟨rfl, q⟩ := q
  cases q
  refine px_ifne rfl (by decide) rfl (fun hc => ?_) (fun hc => ?_)
  · replace h := (if_neg hc).symm.trans h
    refine px_ld rfl rfl rfl rfl rfl ?_
    refine px_ld rfl rfl rfl rfl rfl ?_
    obtain ⟨t13, ph14, h0, h⟩ := xb_some h
    refine px_cS2 rfl rfl rfl rfl rfl rfl rfl (r_H_above h0 :) (fun _ _ q => nomatch q.2) (fun r ph' q => ?_)
    obtain ⟨rfl, q⟩ := q
    cases q
    refine px_ifne rfl (by decide) rfl (fun hc => ?_) (fun hc => ?_)
    · replace h := (if_neg hc).symm.trans h
      refine px_forget (n := 0) (lv' := [_, _, _, _, _, _, _, _, _, _, _, _, _, _]) rfl ?_
      refine px_forget (n := 1) (lv' := [_, _, _, _, _, _, _, _, _, _, _, _, _, _]) rfl ?_
      refine px_forget (n := 2) (lv' := [_, _, _, _, _, _, _, _, _, _, _, _, _, _]) rfl ?_
      refine px_forget (n := 4) (lv' := [_, _, _, _, _, _, _, _, _, _, _, _, _, _]) rfl ?_
      refine px_forget (n := 6) (lv' := [_, _, _, _, _, _, _, _, _, _, _, _, _, _]) rfl ?_
      refine px_forget (n := 8) (lv' := [_, _, _, _, _, _, _, _, _, _, _, _, _, _]) rfl ?_
      refine px_forget (n := 10) (lv' := [_, _, _, _, _, _, _, _, _, _, _, _, _, _]) rfl ?_
      refine px_forget (n := 12) (lv' := [_, _, _, _, _, _, _, _, _, _, _, _, _, _]) rfl ?_
      exact (r_Memory_rowError_139 h :)
    · replace h := (if_pos hc).symm.trans h
      refine px_ld rfl rfl rfl rfl rfl ?_
      refine px_ldc2 rfl rfl rfl ?_
      obtain ⟨t15, ph16, h0, h⟩ := xb_some h
      refine px_cS2 rfl rfl rfl rfl rfl rfl rfl (r_H_above h0 :) (fun _ _ q => nomatch q.2) (fun r ph' q => ?_)
      obtain ⟨rfl, q⟩ := q
      cases q
      refine px_ifne rfl (by decide) rfl (fun hc => ?_) (fun hc => ?_)
      · replace h := (if_neg hc).symm.trans h
        refine px_forget (n := 0) (lv' := [_, _, _, _, _, _, _, _, _, _, _, _, _, _]) rfl ?_
        refine px_forget (n := 1) (lv' := [_, _, _, _, _, _, _, _, _, _, _, _, _, _]) rfl ?_
        refine px_forget (n := 2) (lv' := [_, _, _, _, _, _, _, _, _, _, _, _, _, _]) rfl ?_
        refine px_forget (n := 4) (lv' := [_, _, _, _, _, _, _, _, _, _, _, _, _, _]) rfl ?_
        refine px_forget (n := 6) (lv' := [_, _, _, _, _, _, _, _, _, _, _, _, _, _]) rfl ?_
        refine px_forget (n := 8) (lv' := [_, _, _, _, _, _, _, _, _, _, _, _, _, _]) rfl ?_
        refine px_forget (n := 10) (lv' := [_, _, _, _, _, _, _, _, _, _, _, _, _, _]) rfl ?_
        refine px_forget (n := 12) (lv' := [_, _, _, _, _, _, _, _, _, _, _, _, _, _]) rfl ?_
        exact (r_Memory_rowError_139 h :)
      · replace h := (if_pos hc).symm.trans h
        refine px_ld rfl rfl rfl rfl rfl ?_
        refine px_ldc2 rfl rfl rfl ?_
        obtain ⟨t17, ph18, h0, h⟩ := xb_some h
        refine px_cS2 rfl rfl rfl rfl rfl rfl rfl (r_H_above h0 :) (fun _ _ q => nomatch q.2) (fun r ph' q => ?_)
        obtain ⟨rfl, q⟩ := q
        cases q
        refine px_ifne rfl (by decide) rfl (fun hc => ?_) (fun hc => ?_)
        · replace h := (if_neg hc).symm.trans h
          refine px_forget (n := 0) (lv' := [_, _, _, _, _, _, _, _, _, _, _, _, _, _]) rfl ?_
          refine px_forget (n := 1) (lv' := [_, _, _, _, _, _, _, _, _, _, _, _, _, _]) rfl ?_
          refine px_forget (n := 2) (lv' := [_, _, _, _, _, _, _, _, _, _, _, _, _, _]) rfl ?_
          refine px_forget (n := 4) (lv' := [_, _, _, _, _, _, _, _, _, _, _, _, _, _]) rfl ?_
          refine px_forget (n := 6) (lv' := [_, _, _, _, _, _, _, _, _, _, _, _, _, _]) rfl ?_
          refine px_forget (n := 8) (lv' := [_, _, _, _, _, _, _, _, _, _, _, _, _, _]) rfl ?_
          refine px_forget (n := 10) (lv' := [_, _, _, _, _, _, _, _, _, _, _, _, _, _]) rfl ?_
          refine px_forget (n := 12) (lv' := [_, _, _, _, _, _, _, _, _, _, _, _, _, _]) rfl ?_
          exact (r_Memory_rowError_139 h :)
        · replace h := (if_pos hc).symm.trans h
          refine px_ld rfl rfl rfl rfl rfl ?_
          refine px_ld rfl rfl rfl rfl rfl ?_
          refine px_alu rfl rfl rfl ?_
          refine px_alu rfl rfl rfl ?_
          refine px_alu rfl rfl rfl ?_
          refine px_alu rfl rfl rfl ?_
          refine px_alu rfl rfl rfl ?_
          refine px_ifne rfl (by decide) rfl (fun hc => ?_) (fun hc => ?_)
          · replace h := (if_neg (fun q => hc ((lg_cmp_eq _ _).mpr q))).symm.trans h
            refine px_forget (n := 0) (lv' := [_, _, _, _, _, _, _, _, _, _, _, _, _, _]) rfl ?_
            refine px_forget (n := 1) (lv' := [_, _, _, _, _, _, _, _, _, _, _, _, _, _]) rfl ?_
            refine px_forget (n := 2) (lv' := [_, _, _, _, _, _, _, _, _, _, _, _, _, _]) rfl ?_
            refine px_forget (n := 4) (lv' := [_, _, _, _, _, _, _, _, _, _, _, _, _, _]) rfl ?_
            refine px_forget (n := 6) (lv' := [_, _, _, _, _, _, _, _, _, _, _, _, _, _]) rfl ?_
            refine px_forget (n := 8) (lv' := [_, _, _, _, _, _, _, _, _, _, _, _, _, _]) rfl ?_
            refine px_forget (n := 10) (lv' := [_, _, _, _, _, _, _, _, _, _, _, _, _, _]) rfl ?_
            refine px_forget (n := 12) (lv' := [_, _, _, _, _, _, _, _, _, _, _, _, _, _]) rfl ?_
            exact (r_Memory_rowError_139 h :)
          · replace h := (if_pos ((lg_cmp_eq _ _).mp hc)).symm.trans h
            refine px_ld rfl rfl rfl rfl rfl ?_
            refine px_alu rfl rfl rfl ?_
            refine px_alu rfl rfl rfl ?_
            refine px_ifeq rfl (by decide) rfl (fun hc => ?_) (fun hc => ?_)
            · replace h := (if_pos ((lg_cmp_eq _ _).mp hc)).symm.trans h
              refine px_forget (n := 0) (lv' := [_, _, _, _, _, _, _, _, _, _, _, _, _, _]) rfl ?_
              refine px_forget (n := 1) (lv' := [_, _, _, _, _, _, _, _, _, _, _, _, _, _]) rfl ?_
              refine px_forget (n := 4) (lv' := [_, _, _, _, _, _, _, _, _, _, _, _, _, _]) rfl ?_
              refine px_forget (n := 8) (lv' := [_, _, _, _, _, _, _, _, _, _, _, _, _, _]) rfl ?_
              refine px_forget (n := 10) (lv' := [_, _, _, _, _, _, _, _, _, _, _, _, _, _]) rfl ?_
              refine px_forget (n := 12) (lv' := [_, _, _, _, _, _, _, _, _, _, _, _, _, _]) rfl ?_
              exact (r_Memory_rowError_141 h :)
            · replace h := (if_neg (fun q => hc ((lg_cmp_eq _ _).mpr q))).symm.trans h
              refine px_ld rfl rfl rfl rfl rfl ?_
              refine px_ld rfl rfl rfl rfl rfl ?_
              refine px_alu rfl rfl rfl ?_
              refine px_ld rfl rfl rfl rfl rfl ?_
              refine px_alu rfl rfl rfl ?_
              refine px_alu rfl rfl rfl ?_
              refine px_alu rfl rfl rfl ?_
              refine px_alu rfl rfl rfl ?_
              refine px_alu rfl rfl rfl ?_
              refine px_ifeq rfl (by decide) rfl (fun hc => ?_) (fun hc => ?_)
              · replace h := (if_pos ((lg_cmp_eq _ _).mp hc)).symm.trans h
                refine px_forget (n := 0) (lv' := [_, _, _, _, _, _, _, _, _, _, _, _, _, _]) rfl ?_
                refine px_forget (n := 1) (lv' := [_, _, _, _, _, _, _, _, _, _, _, _, _, _]) rfl ?_
                refine px_forget (n := 4) (lv' := [_, _, _, _, _, _, _, _, _, _, _, _, _, _]) rfl ?_
                refine px_forget (n := 8) (lv' := [_, _, _, _, _, _, _, _, _, _, _, _, _, _]) rfl ?_
                refine px_forget (n := 10) (lv' := [_, _, _, _, _, _, _, _, _, _, _, _, _, _]) rfl ?_
                refine px_forget (n := 12) (lv' := [_, _, _, _, _, _, _, _, _, _, _, _, _, _]) rfl ?_
                exact (r_Memory_rowError_141 h :)
              · replace h := (if_neg (fun q => hc ((lg_cmp_eq _ _).mpr q))).symm.trans h
                refine px_forget (n := 0) (lv' := [_, _, _, _, _, _, _, _, _, _, _, _, _, _]) rfl ?_
                refine px_forget (n := 1) (lv' := [_, _, _, _, _, _, _, _, _, _, _, _, _, _]) rfl ?_
                refine px_forget (n := 2) (lv' := [_, _, _, _, _, _, _, _, _, _, _, _, _, _]) rfl ?_
                refine px_forget (n := 4) (lv' := [_, _, _, _, _, _, _, _, _, _, _, _, _, _]) rfl ?_
                refine px_forget (n := 6) (lv' := [_, _, _, _, _, _, _, _, _, _, _, _, _, _]) rfl ?_
                refine px_forget (n := 8) (lv' := [_, _, _, _, _, _, _, _, _, _, _, _, _, _]) rfl ?_
                refine px_forget (n := 10) (lv' := [_, _, _, _, _, _, _, _, _, _, _, _, _, _]) rfl ?_
                refine px_forget (n := 12) (lv' := [_, _, _, _, _, _, _, _, _, _, _, _, _, _]) rfl ?_
                exact (r_Memory_rowError_139 h :)
  · replace h := (if_pos hc).symm.trans h
    refine px_ic (k := 3) rfl rfl rfl ?_
    cases h
    exact px_iret rfl (Or.inl rfl) rfl ⟨rfl, rfl⟩
def f_Memory_errorOf_275 (F : Nat) (c : px_CT) (s0 : Int32) (ph : px_H) : Option (Int32 × px_H) :=
  some (s0, ph)
theorem r_Memory_errorOf_275 {l : Launch} {g : px_G} {d F : Nat} {s0 : Int32} {ph : px_H} {r : Int32} {ph' : px_H} (h : f_Memory_errorOf_275 F (px_ct g) s0 ph = some (r, ph')) : PW l g (d + 3) m_Memory_errorOf 275 [px_u, px_u, px_u, px_u, px_u, px_u, px_u, px_u, px_u, px_u, px_u, px_u, px_u, px_u, px_u, px_u] [.int s0] ph (px_qI r ph') := by
  unfold f_Memory_errorOf_275 at h
  cases h
  exact px_iret rfl (Or.inl rfl) rfl ⟨rfl, rfl⟩
def f_Memory_errorOf_264 (F : Nat) (c : px_CT) (a7 : Int32) (ph : px_H) : Option (Int32 × px_H) :=
  if a7 = 0 then
    f_Memory_errorOf_275 F c (nI 6) ph
  else
    f_Memory_errorOf_275 F c (nI 0) ph
theorem r_Memory_errorOf_264 {l : Launch} {g : px_G} {d F : Nat} {a7 : Int32} {ph : px_H} {r : Int32} {ph' : px_H} (h : f_Memory_errorOf_264 F (px_ct g) a7 ph = some (r, ph')) : PW l g (d + 3) m_Memory_errorOf 264 [px_u, px_u, px_u, px_u, px_u, px_u, px_u, .int a7, px_u, px_u, px_u, px_u, px_u, px_u, px_u, px_u] [] ph (px_qI r ph') := by
  unfold f_Memory_errorOf_264 at h
  refine px_ld rfl rfl rfl rfl rfl ?_
  refine px_ifeq rfl (by decide) rfl (fun hc => ?_) (fun hc => ?_)
  · replace h := (if_pos hc).symm.trans h
    refine px_ic (k := 6) rfl rfl rfl ?_
    refine px_forget (n := 7) (lv' := [_, _, _, _, _, _, _, _, _, _, _, _, _, _, _, _]) rfl ?_
    exact (r_Memory_errorOf_275 h :)
  · replace h := (if_neg hc).symm.trans h
    refine px_ic (k := 0) rfl rfl rfl ?_
    refine px_goto rfl (by decide) rfl ?_
    refine px_forget (n := 7) (lv' := [_, _, _, _, _, _, _, _, _, _, _, _, _, _, _, _]) rfl ?_
    exact (r_Memory_errorOf_275 h :)
def f_Memory_errorOf_258 (F : Nat) (c : px_CT) (k127 : Nat → Int64 → Int32 → Int64 → Int32 → Int32 → px_H → Option (Int32 × px_H)) (a1 : Nat) (a2 : Int64) (a4 : Int32) (a5 : Int64) (a7 : Int32) (a8 : Int32) (ph : px_H) : Option (Int32 × px_H) :=
  k127 a1 a2 a4 a5 a7 (a8 + nI 1) ph
theorem r_Memory_errorOf_258 {l : Launch} {g : px_G} {d F : Nat} {k127 : Nat → Int64 → Int32 → Int64 → Int32 → Int32 → px_H → Option (Int32 × px_H)} (hk127 : ∀ {a1 : Nat} {a2 : Int64} {a4 : Int32} {a5 : Int64} {a7 : Int32} {a8 : Int32} {ph : px_H} {r : Int32} {ph' : px_H}, k127 a1 a2 a4 a5 a7 a8 ph = some (r, ph') → PW l g (d + 3) m_Memory_errorOf 127 [px_u, .ref a1, .long a2, px_u, .int a4, .long a5, px_u, .int a7, .int a8, px_u, px_u, px_u, px_u, px_u, px_u, px_u] [] ph (px_qI r ph')) {a1 : Nat} {a2 : Int64} {a4 : Int32} {a5 : Int64} {a7 : Int32} {a8 : Int32} {ph : px_H} {r : Int32} {ph' : px_H} (h : f_Memory_errorOf_258 F (px_ct g) k127 a1 a2 a4 a5 a7 a8 ph = some (r, ph')) : PW l g (d + 3) m_Memory_errorOf 258 [px_u, .ref a1, .long a2, px_u, .int a4, .long a5, px_u, .int a7, .int a8, px_u, px_u, px_u, px_u, px_u, px_u, px_u] [] ph (px_qI r ph') := by
  unfold f_Memory_errorOf_258 at h
  refine px_iinc (lv' := [_, _, _, _, _, _, _, _, _, _, _, _, _, _, _, _]) rfl rfl rfl rfl rfl rfl ?_
  refine px_goto rfl (by decide) rfl ?_
  exact (hk127 h :)
def f_Memory_errorOf_256 (F : Nat) (c : px_CT) (k127 : Nat → Int64 → Int32 → Int64 → Int32 → Int32 → px_H → Option (Int32 × px_H)) (a1 : Nat) (a2 : Int64) (a4 : Int32) (a5 : Int64) (a8 : Int32) (s0 : Int32) (ph : px_H) : Option (Int32 × px_H) :=
  f_Memory_errorOf_258 F c k127 a1 a2 a4 a5 s0 a8 ph
theorem r_Memory_errorOf_256 {l : Launch} {g : px_G} {d F : Nat} {k127 : Nat → Int64 → Int32 → Int64 → Int32 → Int32 → px_H → Option (Int32 × px_H)} (hk127 : ∀ {a1 : Nat} {a2 : Int64} {a4 : Int32} {a5 : Int64} {a7 : Int32} {a8 : Int32} {ph : px_H} {r : Int32} {ph' : px_H}, k127 a1 a2 a4 a5 a7 a8 ph = some (r, ph') → PW l g (d + 3) m_Memory_errorOf 127 [px_u, .ref a1, .long a2, px_u, .int a4, .long a5, px_u, .int a7, .int a8, px_u, px_u, px_u, px_u, px_u, px_u, px_u] [] ph (px_qI r ph')) {a1 : Nat} {a2 : Int64} {a4 : Int32} {a5 : Int64} {a8 : Int32} {s0 : Int32} {ph : px_H} {r : Int32} {ph' : px_H} (h : f_Memory_errorOf_256 F (px_ct g) k127 a1 a2 a4 a5 a8 s0 ph = some (r, ph')) : PW l g (d + 3) m_Memory_errorOf 256 [px_u, .ref a1, .long a2, px_u, .int a4, .long a5, px_u, px_u, .int a8, px_u, px_u, px_u, px_u, px_u, px_u, px_u] [.int s0] ph (px_qI r ph') := by
  unfold f_Memory_errorOf_256 at h
  refine px_st (lv' := [_, _, _, _, _, _, _, _, _, _, _, _, _, _, _, _]) rfl rfl rfl rfl rfl rfl rfl ?_
  exact (r_Memory_errorOf_258 @hk127 h :)
def f_Memory_errorOf_255 (F : Nat) (c : px_CT) (k127 : Nat → Int64 → Int32 → Int64 → Int32 → Int32 → px_H → Option (Int32 × px_H)) (a1 : Nat) (a2 : Int64) (a4 : Int32) (a5 : Int64) (a8 : Int32) (ph : px_H) : Option (Int32 × px_H) :=
  f_Memory_errorOf_256 F c k127 a1 a2 a4 a5 a8 (nI 0) ph
theorem r_Memory_errorOf_255 {l : Launch} {g : px_G} {d F : Nat} {k127 : Nat → Int64 → Int32 → Int64 → Int32 → Int32 → px_H → Option (Int32 × px_H)} (hk127 : ∀ {a1 : Nat} {a2 : Int64} {a4 : Int32} {a5 : Int64} {a7 : Int32} {a8 : Int32} {ph : px_H} {r : Int32} {ph' : px_H}, k127 a1 a2 a4 a5 a7 a8 ph = some (r, ph') → PW l g (d + 3) m_Memory_errorOf 127 [px_u, .ref a1, .long a2, px_u, .int a4, .long a5, px_u, .int a7, .int a8, px_u, px_u, px_u, px_u, px_u, px_u, px_u] [] ph (px_qI r ph')) {a1 : Nat} {a2 : Int64} {a4 : Int32} {a5 : Int64} {a8 : Int32} {ph : px_H} {r : Int32} {ph' : px_H} (h : f_Memory_errorOf_255 F (px_ct g) k127 a1 a2 a4 a5 a8 ph = some (r, ph')) : PW l g (d + 3) m_Memory_errorOf 255 [px_u, .ref a1, .long a2, px_u, .int a4, .long a5, px_u, px_u, .int a8, px_u, px_u, px_u, px_u, px_u, px_u, px_u] [] ph (px_qI r ph') := by
  unfold f_Memory_errorOf_255 at h
  refine px_ic (k := 0) rfl rfl rfl ?_
  exact (r_Memory_errorOf_256 @hk127 h :)
def f_Memory_errorOf_251 (F : Nat) (c : px_CT) (k127 : Nat → Int64 → Int32 → Int64 → Int32 → Int32 → px_H → Option (Int32 × px_H)) (a1 : Nat) (a2 : Int64) (a4 : Int32) (a5 : Int64) (a8 : Int32) (ph : px_H) : Option (Int32 × px_H) :=
  f_Memory_errorOf_256 F c k127 a1 a2 a4 a5 a8 (nI 1) ph
theorem r_Memory_errorOf_251 {l : Launch} {g : px_G} {d F : Nat} {k127 : Nat → Int64 → Int32 → Int64 → Int32 → Int32 → px_H → Option (Int32 × px_H)} (hk127 : ∀ {a1 : Nat} {a2 : Int64} {a4 : Int32} {a5 : Int64} {a7 : Int32} {a8 : Int32} {ph : px_H} {r : Int32} {ph' : px_H}, k127 a1 a2 a4 a5 a7 a8 ph = some (r, ph') → PW l g (d + 3) m_Memory_errorOf 127 [px_u, .ref a1, .long a2, px_u, .int a4, .long a5, px_u, .int a7, .int a8, px_u, px_u, px_u, px_u, px_u, px_u, px_u] [] ph (px_qI r ph')) {a1 : Nat} {a2 : Int64} {a4 : Int32} {a5 : Int64} {a8 : Int32} {ph : px_H} {r : Int32} {ph' : px_H} (h : f_Memory_errorOf_251 F (px_ct g) k127 a1 a2 a4 a5 a8 ph = some (r, ph')) : PW l g (d + 3) m_Memory_errorOf 251 [px_u, .ref a1, .long a2, px_u, .int a4, .long a5, px_u, px_u, .int a8, px_u, px_u, px_u, px_u, px_u, px_u, px_u] [] ph (px_qI r ph') := by
  unfold f_Memory_errorOf_251 at h
  refine px_ic (k := 1) rfl rfl rfl ?_
  refine px_goto rfl (by decide) rfl ?_
  exact (r_Memory_errorOf_256 @hk127 h :)
def f_Memory_errorOf_171 (F : Nat) (c : px_CT) (a10 : Int32) (ph : px_H) : Option (Int32 × px_H) :=
  some (a10, ph)
theorem r_Memory_errorOf_171 {l : Launch} {g : px_G} {d F : Nat} {a10 : Int32} {ph : px_H} {r : Int32} {ph' : px_H} (h : f_Memory_errorOf_171 F (px_ct g) a10 ph = some (r, ph')) : PW l g (d + 3) m_Memory_errorOf 171 [px_u, px_u, px_u, px_u, px_u, px_u, px_u, px_u, px_u, px_u, .int a10, px_u, px_u, px_u, px_u, px_u] [] ph (px_qI r ph') := by
  unfold f_Memory_errorOf_171 at h
  refine px_ld rfl rfl rfl rfl rfl ?_
  cases h
  exact px_iret rfl (Or.inl rfl) rfl ⟨rfl, rfl⟩
def f_Memory_errorOf_127 (F : Nat) (c : px_CT) : Nat → Nat → Int64 → Int32 → Int64 → Int32 → Int32 → px_H → Option (Int32 × px_H)
  | 0, _, _, _, _, _, _, _ => none
  | n + 1, a1, a2, a4, a5, a7, a8, ph =>
    if a4 ≤ a8 then
      f_Memory_errorOf_264 F c a7 ph
    else
      (xo ph 10 a1).bind fun _ =>
      xb (f_Row_num F c a1 (a2.toInt32 + ((nI 56) * a8)) (nI 4) ph) fun t1 ph2 =>
      if t1 = (lN 1) then
        xb (f_Memory_rowError F c a1 (a2.toInt32 + ((nI 56) * a8)) a5 ph2) fun t3 ph4 =>
        if t3 = 0 then
          (xo ph4 10 a1).bind fun _ =>
          xb (f_Row_num F c a1 ((a2.toInt32 + ((nI 56) * a8)) + (nI 16)) (nI 8) ph4) fun t5 ph6 =>
          (xo ph6 10 a1).bind fun _ =>
          xb (f_Row_num F c a1 ((a2.toInt32 + ((nI 56) * a8)) + (nI 40)) (nI 8) ph6) fun t7 ph8 =>
          (xo ph8 10 a1).bind fun _ =>
          xb (f_Row_num F c a1 (nI 24) (nI 8) ph8) fun t9 ph10 =>
          xb (f_H_above F c t7 (t9 - t5) ph10) fun t11 ph12 =>
          if a7 = 0 then
            if t11 = 0 then
              f_Memory_errorOf_255 F c (f_Memory_errorOf_127 F c n) a1 a2 a4 (t5 + t7) a8 ph12
            else
              (xo ph12 10 a1).bind fun _ =>
              xb (f_Row_num F c a1 ((a2.toInt32 + ((nI 56) * a8)) + (nI 4)) (nI 4) ph12) fun t13 ph14 =>
              if (t13 &&& (lN 1)) = (lN 0) then
                f_Memory_errorOf_255 F c (f_Memory_errorOf_127 F c n) a1 a2 a4 (t5 + t7) a8 ph14
              else
                f_Memory_errorOf_251 F c (f_Memory_errorOf_127 F c n) a1 a2 a4 (t5 + t7) a8 ph14
          else
            f_Memory_errorOf_251 F c (f_Memory_errorOf_127 F c n) a1 a2 a4 (t5 + t7) a8 ph12
        else
          f_Memory_errorOf_171 F c t3 ph4
      else
        f_Memory_errorOf_258 F c (f_Memory_errorOf_127 F c n) a1 a2 a4 a5 a7 a8 ph2
theorem r_Memory_errorOf_127 {l : Launch} {g : px_G} {d F : Nat} : ∀ (n : Nat) {a1 : Nat} {a2 : Int64} {a4 : Int32} {a5 : Int64} {a7 : Int32} {a8 : Int32} {ph : px_H} {r : Int32} {ph' : px_H}, f_Memory_errorOf_127 F (px_ct g) n a1 a2 a4 a5 a7 a8 ph = some (r, ph') → PW l g (d + 3) m_Memory_errorOf 127 [px_u, .ref a1, .long a2, px_u, .int a4, .long a5, px_u, .int a7, .int a8, px_u, px_u, px_u, px_u, px_u, px_u, px_u] [] ph (px_qI r ph') := by
  intro n
  induction n with
  | zero => intro _ _ _ _ _ _ _ _ _ h; cases h
  | succ n ih =>
    intro a1 a2 a4 a5 a7 a8 ph r ph' h
    unfold f_Memory_errorOf_127 at h
    refine px_ld rfl rfl rfl rfl rfl ?_
    refine px_ld rfl rfl rfl rfl rfl ?_
    refine px_icge rfl (by decide) rfl (fun hc => ?_) (fun hc => ?_)
    · replace h := (if_pos hc).symm.trans h
      refine px_forget (n := 1) (lv' := [_, _, _, _, _, _, _, _, _, _, _, _, _, _, _, _]) rfl ?_
      refine px_forget (n := 2) (lv' := [_, _, _, _, _, _, _, _, _, _, _, _, _, _, _, _]) rfl ?_
      refine px_forget (n := 4) (lv' := [_, _, _, _, _, _, _, _, _, _, _, _, _, _, _, _]) rfl ?_
      refine px_forget (n := 5) (lv' := [_, _, _, _, _, _, _, _, _, _, _, _, _, _, _, _]) rfl ?_
      refine px_forget (n := 8) (lv' := [_, _, _, _, _, _, _, _, _, _, _, _, _, _, _, _]) rfl ?_
      exact (r_Memory_errorOf_264 h :)
    · replace h := (if_neg hc).symm.trans h
      refine px_ld rfl rfl rfl rfl rfl ?_
      refine px_alu rfl rfl rfl ?_
      refine px_ic (k := 56) rfl rfl rfl ?_
      refine px_ld rfl rfl rfl rfl rfl ?_
      refine px_alu rfl rfl rfl ?_
      refine px_alu rfl rfl rfl ?_
      refine px_st (lv' := [_, _, _, _, _, _, _, _, _, _, _, _, _, _, _, _]) rfl rfl rfl rfl rfl rfl rfl ?_
      refine px_ld rfl rfl rfl rfl rfl ?_
      refine px_ld rfl rfl rfl rfl rfl ?_
      refine px_ic (k := 4) rfl rfl rfl ?_
      obtain ⟨fs, h0, h⟩ := xs_some h
      have e1 := xo_some h0
      obtain ⟨t1, ph2, h0, h⟩ := xb_some h
      refine px_cV2 rfl rfl e1 rfl rfl rfl rfl rfl rfl rfl (r_Row_num h0 :) (fun _ _ q => nomatch q.2) (fun r ph' q => ?_)
      obtain ⟨rfl, q⟩ := q
      cases q
      refine px_alu rfl rfl rfl ?_
      refine px_alu rfl rfl rfl ?_
      refine px_ifne rfl (by decide) rfl (fun hc => ?_) (fun hc => ?_)
      · replace h := (if_neg (fun q => hc ((lg_cmp_eq _ _).mpr q))).symm.trans h
        refine px_forget (n := 9) (lv' := [_, _, _, _, _, _, _, _, _, _, _, _, _, _, _, _]) rfl ?_
        exact (r_Memory_errorOf_258 @ih h :)
      · replace h := (if_pos ((lg_cmp_eq _ _).mp hc)).symm.trans h
        refine px_ld rfl rfl rfl rfl rfl ?_
        refine px_ld rfl rfl rfl rfl rfl ?_
        refine px_ld rfl rfl rfl rfl rfl ?_
        obtain ⟨t3, ph4, h0, h⟩ := xb_some h
        refine px_cS3 rfl rfl rfl rfl rfl rfl rfl (r_Memory_rowError h0 :) (fun _ _ q => nomatch q.2) (fun r ph' q => ?_)
        obtain ⟨rfl, q⟩ := q
        cases q
        refine px_st (lv' := [_, _, _, _, _, _, _, _, _, _, _, _, _, _, _, _]) rfl rfl rfl rfl rfl rfl rfl ?_
        refine px_ld rfl rfl rfl rfl rfl ?_
        refine px_ifeq rfl (by decide) rfl (fun hc => ?_) (fun hc => ?_)
        · replace h := (if_pos hc).symm.trans h
          refine px_ld rfl rfl rfl rfl rfl ?_
          refine px_ld rfl rfl rfl rfl rfl ?_
          refine px_ic (k := 16) rfl rfl rfl ?_
          refine px_alu rfl rfl rfl ?_
          refine px_ic (k := 8) rfl rfl rfl ?_
          obtain ⟨fs, h0, h⟩ := xs_some h
          have e1 := xo_some h0
          obtain ⟨t5, ph6, h0, h⟩ := xb_some h
          refine px_cV2 rfl rfl e1 rfl rfl rfl rfl rfl rfl rfl (r_Row_num h0 :) (fun _ _ q => nomatch q.2) (fun r ph' q => ?_)
          obtain ⟨rfl, q⟩ := q
          cases q
          refine px_st (lv' := [_, _, _, _, _, _, _, _, _, _, _, _, _, _, _, _]) rfl rfl rfl rfl rfl rfl rfl ?_
          refine px_ld rfl rfl rfl rfl rfl ?_
          refine px_ld rfl rfl rfl rfl rfl ?_
          refine px_ic (k := 40) rfl rfl rfl ?_
          refine px_alu rfl rfl rfl ?_
          refine px_ic (k := 8) rfl rfl rfl ?_
          obtain ⟨fs, h0, h⟩ := xs_some h
          have e1 := xo_some h0
          obtain ⟨t7, ph8, h0, h⟩ := xb_some h
          refine px_cV2 rfl rfl e1 rfl rfl rfl rfl rfl rfl rfl (r_Row_num h0 :) (fun _ _ q => nomatch q.2) (fun r ph' q => ?_)
          obtain ⟨rfl, q⟩ := q
          cases q
          refine px_st (lv' := [_, _, _, _, _, _, _, _, _, _, _, _, _, _, _, _]) rfl rfl rfl rfl rfl rfl rfl ?_
          refine px_ld rfl rfl rfl rfl rfl ?_
          refine px_ld rfl rfl rfl rfl rfl ?_
          refine px_alu rfl rfl rfl ?_
          refine px_st (lv' := [_, _, _, _, _, _, _, _, _, _, _, _, _, _, _, _]) rfl rfl rfl rfl rfl rfl rfl ?_
          refine px_ld rfl rfl rfl rfl rfl ?_
          refine px_ld rfl rfl rfl rfl rfl ?_
          refine px_ic (k := 24) rfl rfl rfl ?_
          refine px_ic (k := 8) rfl rfl rfl ?_
          obtain ⟨fs, h0, h⟩ := xs_some h
          have e1 := xo_some h0
          obtain ⟨t9, ph10, h0, h⟩ := xb_some h
          refine px_cV2 rfl rfl e1 rfl rfl rfl rfl rfl rfl rfl (r_Row_num h0 :) (fun _ _ q => nomatch q.2) (fun r ph' q => ?_)
          obtain ⟨rfl, q⟩ := q
          cases q
          refine px_ld rfl rfl rfl rfl rfl ?_
          refine px_alu rfl rfl rfl ?_
          obtain ⟨t11, ph12, h0, h⟩ := xb_some h
          refine px_cS2 rfl rfl rfl rfl rfl rfl rfl (r_H_above h0 :) (fun _ _ q => nomatch q.2) (fun r ph' q => ?_)
          obtain ⟨rfl, q⟩ := q
          cases q
          refine px_st (lv' := [_, _, _, _, _, _, _, _, _, _, _, _, _, _, _, _]) rfl rfl rfl rfl rfl rfl rfl ?_
          refine px_ld rfl rfl rfl rfl rfl ?_
          refine px_ifne rfl (by decide) rfl (fun hc => ?_) (fun hc => ?_)
          · replace h := (if_neg hc).symm.trans h
            refine px_forget (n := 7) (lv' := [_, _, _, _, _, _, _, _, _, _, _, _, _, _, _, _]) rfl ?_
            refine px_forget (n := 9) (lv' := [_, _, _, _, _, _, _, _, _, _, _, _, _, _, _, _]) rfl ?_
            refine px_forget (n := 10) (lv' := [_, _, _, _, _, _, _, _, _, _, _, _, _, _, _, _]) rfl ?_
            refine px_forget (n := 11) (lv' := [_, _, _, _, _, _, _, _, _, _, _, _, _, _, _, _]) rfl ?_
            refine px_forget (n := 13) (lv' := [_, _, _, _, _, _, _, _, _, _, _, _, _, _, _, _]) rfl ?_
            refine px_forget (n := 15) (lv' := [_, _, _, _, _, _, _, _, _, _, _, _, _, _, _, _]) rfl ?_
            exact (r_Memory_errorOf_251 @ih h :)
          · replace h := (if_pos hc).symm.trans h
            refine px_ld rfl rfl rfl rfl rfl ?_
            refine px_ifeq rfl (by decide) rfl (fun hc => ?_) (fun hc => ?_)
            · replace h := (if_pos hc).symm.trans h
              refine px_forget (n := 7) (lv' := [_, _, _, _, _, _, _, _, _, _, _, _, _, _, _, _]) rfl ?_
              refine px_forget (n := 9) (lv' := [_, _, _, _, _, _, _, _, _, _, _, _, _, _, _, _]) rfl ?_
              refine px_forget (n := 10) (lv' := [_, _, _, _, _, _, _, _, _, _, _, _, _, _, _, _]) rfl ?_
              refine px_forget (n := 11) (lv' := [_, _, _, _, _, _, _, _, _, _, _, _, _, _, _, _]) rfl ?_
              refine px_forget (n := 13) (lv' := [_, _, _, _, _, _, _, _, _, _, _, _, _, _, _, _]) rfl ?_
              refine px_forget (n := 15) (lv' := [_, _, _, _, _, _, _, _, _, _, _, _, _, _, _, _]) rfl ?_
              exact (r_Memory_errorOf_255 @ih h :)
            · replace h := (if_neg hc).symm.trans h
              refine px_ld rfl rfl rfl rfl rfl ?_
              refine px_ld rfl rfl rfl rfl rfl ?_
              refine px_ic (k := 4) rfl rfl rfl ?_
              refine px_alu rfl rfl rfl ?_
              refine px_ic (k := 4) rfl rfl rfl ?_
              obtain ⟨fs, h0, h⟩ := xs_some h
              have e1 := xo_some h0
              obtain ⟨t13, ph14, h0, h⟩ := xb_some h
              refine px_cV2 rfl rfl e1 rfl rfl rfl rfl rfl rfl rfl (r_Row_num h0 :) (fun _ _ q => nomatch q.2) (fun r ph' q => ?_)
              obtain ⟨rfl, q⟩ := q
              cases q
              refine px_alu rfl rfl rfl ?_
              refine px_alu rfl rfl rfl ?_
              refine px_alu rfl rfl rfl ?_
              refine px_alu rfl rfl rfl ?_
              refine px_ifeq rfl (by decide) rfl (fun hc => ?_) (fun hc => ?_)
              · replace h := (if_pos ((lg_cmp_eq _ _).mp hc)).symm.trans h
                refine px_forget (n := 7) (lv' := [_, _, _, _, _, _, _, _, _, _, _, _, _, _, _, _]) rfl ?_
                refine px_forget (n := 9) (lv' := [_, _, _, _, _, _, _, _, _, _, _, _, _, _, _, _]) rfl ?_
                refine px_forget (n := 10) (lv' := [_, _, _, _, _, _, _, _, _, _, _, _, _, _, _, _]) rfl ?_
                refine px_forget (n := 11) (lv' := [_, _, _, _, _, _, _, _, _, _, _, _, _, _, _, _]) rfl ?_
                refine px_forget (n := 13) (lv' := [_, _, _, _, _, _, _, _, _, _, _, _, _, _, _, _]) rfl ?_
                refine px_forget (n := 15) (lv' := [_, _, _, _, _, _, _, _, _, _, _, _, _, _, _, _]) rfl ?_
                exact (r_Memory_errorOf_255 @ih h :)
              · replace h := (if_neg (fun q => hc ((lg_cmp_eq _ _).mpr q))).symm.trans h
                refine px_forget (n := 7) (lv' := [_, _, _, _, _, _, _, _, _, _, _, _, _, _, _, _]) rfl ?_
                refine px_forget (n := 9) (lv' := [_, _, _, _, _, _, _, _, _, _, _, _, _, _, _, _]) rfl ?_
                refine px_forget (n := 10) (lv' := [_, _, _, _, _, _, _, _, _, _, _, _, _, _, _, _]) rfl ?_
                refine px_forget (n := 11) (lv' := [_, _, _, _, _, _, _, _, _, _, _, _, _, _, _, _]) rfl ?_
                refine px_forget (n := 13) (lv' := [_, _, _, _, _, _, _, _, _, _, _, _, _, _, _, _]) rfl ?_
                refine px_forget (n := 15) (lv' := [_, _, _, _, _, _, _, _, _, _, _, _, _, _, _, _]) rfl ?_
                exact (r_Memory_errorOf_251 @ih h :)
        · replace h := (if_neg hc).symm.trans h
          refine px_forget (n := 1) (lv' := [_, _, _, _, _, _, _, _, _, _, _, _, _, _, _, _]) rfl ?_
          refine px_forget (n := 2) (lv' := [_, _, _, _, _, _, _, _, _, _, _, _, _, _, _, _]) rfl ?_
          refine px_forget (n := 4) (lv' := [_, _, _, _, _, _, _, _, _, _, _, _, _, _, _, _]) rfl ?_
          refine px_forget (n := 5) (lv' := [_, _, _, _, _, _, _, _, _, _, _, _, _, _, _, _]) rfl ?_
          refine px_forget (n := 7) (lv' := [_, _, _, _, _, _, _, _, _, _, _, _, _, _, _, _]) rfl ?_
          refine px_forget (n := 8) (lv' := [_, _, _, _, _, _, _, _, _, _, _, _, _, _, _, _]) rfl ?_
          refine px_forget (n := 9) (lv' := [_, _, _, _, _, _, _, _, _, _, _, _, _, _, _, _]) rfl ?_
          exact (r_Memory_errorOf_171 h :)
def f_Memory_errorOf_116 (F : Nat) (c : px_CT) (ph : px_H) : Option (Int32 × px_H) :=
  some (nI 2, ph)
theorem r_Memory_errorOf_116 {l : Launch} {g : px_G} {d F : Nat} {ph : px_H} {r : Int32} {ph' : px_H} (h : f_Memory_errorOf_116 F (px_ct g) ph = some (r, ph')) : PW l g (d + 3) m_Memory_errorOf 116 [px_u, px_u, px_u, px_u, px_u, px_u, px_u, px_u, px_u, px_u, px_u, px_u, px_u, px_u, px_u, px_u] [] ph (px_qI r ph') := by
  unfold f_Memory_errorOf_116 at h
  refine px_ic (k := 2) rfl rfl rfl ?_
  cases h
  exact px_iret rfl (Or.inl rfl) rfl ⟨rfl, rfl⟩
def f_Memory_errorOf_73 (F : Nat) (c : px_CT) (ph : px_H) : Option (Int32 × px_H) :=
  some (nI 1, ph)
theorem r_Memory_errorOf_73 {l : Launch} {g : px_G} {d F : Nat} {ph : px_H} {r : Int32} {ph' : px_H} (h : f_Memory_errorOf_73 F (px_ct g) ph = some (r, ph')) : PW l g (d + 3) m_Memory_errorOf 73 [px_u, px_u, px_u, px_u, px_u, px_u, px_u, px_u, px_u, px_u, px_u, px_u, px_u, px_u, px_u, px_u] [] ph (px_qI r ph') := by
  unfold f_Memory_errorOf_73 at h
  refine px_ic (k := 1) rfl rfl rfl ?_
  cases h
  exact px_iret rfl (Or.inl rfl) rfl ⟨rfl, rfl⟩
def f_Memory_errorOf (F : Nat) (c : px_CT) (a0 : Nat) (a1 : Nat) (ph : px_H) : Option (Int32 × px_H) :=
  (xgI ph 10 1 a1).bind fun t1 =>
  if t1 < (nI 64) then
    f_Memory_errorOf_73 F c ph
  else
    (xo ph 10 a1).bind fun _ =>
    xb (f_Row_begins F c a1 3 ph) fun t2 ph3 =>
    if t2 = 0 then
      f_Memory_errorOf_73 F c ph3
    else
      (xo ph3 10 a1).bind fun _ =>
      xb (f_Row_num F c a1 (nI 16) (nI 2) ph3) fun t4 ph5 =>
      if t4 = ((2 : Int64)) then
        (xo ph5 10 a1).bind fun _ =>
        xb (f_Row_num F c a1 (nI 18) (nI 2) ph5) fun t6 ph7 =>
        if t6 = ((62 : Int64)) then
          (xo ph7 10 a1).bind fun _ =>
          xb (f_Row_num F c a1 (nI 20) (nI 4) ph7) fun t8 ph9 =>
          if t8 = (lN 1) then
            (xo ph9 10 a1).bind fun _ =>
            xb (f_Row_num F c a1 (nI 54) (nI 2) ph9) fun t10 ph11 =>
            if t10 = ((56 : Int64)) then
              (xo ph11 10 a1).bind fun _ =>
              xb (f_Row_num F c a1 (nI 32) (nI 8) ph11) fun t12 ph13 =>
              (xo ph13 10 a1).bind fun _ =>
              xb (f_Row_num F c a1 (nI 56) (nI 2) ph13) fun t14 ph15 =>
              if (nI 8) < t14.toInt32 then
                f_Memory_errorOf_116 F c ph15
              else
                (xo ph15 10 a1).bind fun _ =>
                xb (f_Row_holds F c a1 t12 (((56 : Int64)) * t14.toInt32.toInt64) ph15) fun t16 ph17 =>
                if t16 = 0 then
                  f_Memory_errorOf_116 F c ph17
                else
                  f_Memory_errorOf_127 F c F a1 t12 t14.toInt32 (lN 0) (nI 0) (nI 0) ph17
            else
              f_Memory_errorOf_73 F c ph11
          else
            f_Memory_errorOf_73 F c ph9
        else
          f_Memory_errorOf_73 F c ph7
      else
        f_Memory_errorOf_73 F c ph5
theorem r_Memory_errorOf {l : Launch} {g : px_G} {d F : Nat} {a0 : Nat} {a1 : Nat} {ph : px_H} {r : Int32} {ph' : px_H} (h : f_Memory_errorOf F (px_ct g) a0 a1 ph = some (r, ph')) : PW l g (d + 3) m_Memory_errorOf 0 [.ref a0, .ref a1, px_u, px_u, px_u, px_u, px_u, px_u, px_u, px_u, px_u, px_u, px_u, px_u, px_u, px_u] [] ph (px_qI r ph') := by
  unfold f_Memory_errorOf at h
  refine px_ld rfl rfl rfl rfl rfl ?_
  obtain ⟨t1, h0, h⟩ := xs_some h
  obtain ⟨fs, e1, e2⟩ := xgI_some h0
  refine px_get rfl e1 e2 rfl ?_
  refine px_ic (k := 64) rfl rfl rfl ?_
  refine px_iclt rfl (by decide) rfl (fun hc => ?_) (fun hc => ?_)
  · replace h := (if_pos hc).symm.trans h
    refine px_forget (n := 0) (lv' := [_, _, _, _, _, _, _, _, _, _, _, _, _, _, _, _]) rfl ?_
    refine px_forget (n := 1) (lv' := [_, _, _, _, _, _, _, _, _, _, _, _, _, _, _, _]) rfl ?_
    exact (r_Memory_errorOf_73 h :)
  · replace h := (if_neg hc).symm.trans h
    refine px_ld rfl rfl rfl rfl rfl ?_
    refine px_gets rfl rfl ?_
    obtain ⟨fs, h0, h⟩ := xs_some h
    have e1 := xo_some h0
    obtain ⟨t2, ph3, h0, h⟩ := xb_some h
    refine px_cV1 rfl rfl e1 rfl rfl rfl rfl rfl rfl rfl (r_Row_begins h0 :) (fun _ _ q => nomatch q.2) (fun r ph' q => ?_)
    obtain ⟨rfl, q⟩ := q
    cases q
    refine px_ifeq rfl (by decide) rfl (fun hc => ?_) (fun hc => ?_)
    · replace h := (if_pos hc).symm.trans h
      refine px_forget (n := 0) (lv' := [_, _, _, _, _, _, _, _, _, _, _, _, _, _, _, _]) rfl ?_
      refine px_forget (n := 1) (lv' := [_, _, _, _, _, _, _, _, _, _, _, _, _, _, _, _]) rfl ?_
      exact (r_Memory_errorOf_73 h :)
    · replace h := (if_neg hc).symm.trans h
      refine px_ld rfl rfl rfl rfl rfl ?_
      refine px_ic (k := 16) rfl rfl rfl ?_
      refine px_ic (k := 2) rfl rfl rfl ?_
      obtain ⟨fs, h0, h⟩ := xs_some h
      have e1 := xo_some h0
      obtain ⟨t4, ph5, h0, h⟩ := xb_some h
      refine px_cV2 rfl rfl e1 rfl rfl rfl rfl rfl rfl rfl (r_Row_num h0 :) (fun _ _ q => nomatch q.2) (fun r ph' q => ?_)
      obtain ⟨rfl, q⟩ := q
      cases q
      refine px_ldc2 rfl rfl rfl ?_
      refine px_alu rfl rfl rfl ?_
      refine px_ifne rfl (by decide) rfl (fun hc => ?_) (fun hc => ?_)
      · replace h := (if_neg (fun q => hc ((lg_cmp_eq _ _).mpr q))).symm.trans h
        refine px_forget (n := 0) (lv' := [_, _, _, _, _, _, _, _, _, _, _, _, _, _, _, _]) rfl ?_
        refine px_forget (n := 1) (lv' := [_, _, _, _, _, _, _, _, _, _, _, _, _, _, _, _]) rfl ?_
        exact (r_Memory_errorOf_73 h :)
      · replace h := (if_pos ((lg_cmp_eq _ _).mp hc)).symm.trans h
        refine px_ld rfl rfl rfl rfl rfl ?_
        refine px_ic (k := 18) rfl rfl rfl ?_
        refine px_ic (k := 2) rfl rfl rfl ?_
        obtain ⟨fs, h0, h⟩ := xs_some h
        have e1 := xo_some h0
        obtain ⟨t6, ph7, h0, h⟩ := xb_some h
        refine px_cV2 rfl rfl e1 rfl rfl rfl rfl rfl rfl rfl (r_Row_num h0 :) (fun _ _ q => nomatch q.2) (fun r ph' q => ?_)
        obtain ⟨rfl, q⟩ := q
        cases q
        refine px_ldc2 rfl rfl rfl ?_
        refine px_alu rfl rfl rfl ?_
        refine px_ifne rfl (by decide) rfl (fun hc => ?_) (fun hc => ?_)
        · replace h := (if_neg (fun q => hc ((lg_cmp_eq _ _).mpr q))).symm.trans h
          refine px_forget (n := 0) (lv' := [_, _, _, _, _, _, _, _, _, _, _, _, _, _, _, _]) rfl ?_
          refine px_forget (n := 1) (lv' := [_, _, _, _, _, _, _, _, _, _, _, _, _, _, _, _]) rfl ?_
          exact (r_Memory_errorOf_73 h :)
        · replace h := (if_pos ((lg_cmp_eq _ _).mp hc)).symm.trans h
          refine px_ld rfl rfl rfl rfl rfl ?_
          refine px_ic (k := 20) rfl rfl rfl ?_
          refine px_ic (k := 4) rfl rfl rfl ?_
          obtain ⟨fs, h0, h⟩ := xs_some h
          have e1 := xo_some h0
          obtain ⟨t8, ph9, h0, h⟩ := xb_some h
          refine px_cV2 rfl rfl e1 rfl rfl rfl rfl rfl rfl rfl (r_Row_num h0 :) (fun _ _ q => nomatch q.2) (fun r ph' q => ?_)
          obtain ⟨rfl, q⟩ := q
          cases q
          refine px_alu rfl rfl rfl ?_
          refine px_alu rfl rfl rfl ?_
          refine px_ifne rfl (by decide) rfl (fun hc => ?_) (fun hc => ?_)
          · replace h := (if_neg (fun q => hc ((lg_cmp_eq _ _).mpr q))).symm.trans h
            refine px_forget (n := 0) (lv' := [_, _, _, _, _, _, _, _, _, _, _, _, _, _, _, _]) rfl ?_
            refine px_forget (n := 1) (lv' := [_, _, _, _, _, _, _, _, _, _, _, _, _, _, _, _]) rfl ?_
            exact (r_Memory_errorOf_73 h :)
          · replace h := (if_pos ((lg_cmp_eq _ _).mp hc)).symm.trans h
            refine px_ld rfl rfl rfl rfl rfl ?_
            refine px_ic (k := 54) rfl rfl rfl ?_
            refine px_ic (k := 2) rfl rfl rfl ?_
            obtain ⟨fs, h0, h⟩ := xs_some h
            have e1 := xo_some h0
            obtain ⟨t10, ph11, h0, h⟩ := xb_some h
            refine px_cV2 rfl rfl e1 rfl rfl rfl rfl rfl rfl rfl (r_Row_num h0 :) (fun _ _ q => nomatch q.2) (fun r ph' q => ?_)
            obtain ⟨rfl, q⟩ := q
            cases q
            refine px_ldc2 rfl rfl rfl ?_
            refine px_alu rfl rfl rfl ?_
            refine px_ifeq rfl (by decide) rfl (fun hc => ?_) (fun hc => ?_)
            · replace h := (if_pos ((lg_cmp_eq _ _).mp hc)).symm.trans h
              refine px_ld rfl rfl rfl rfl rfl ?_
              refine px_ic (k := 32) rfl rfl rfl ?_
              refine px_ic (k := 8) rfl rfl rfl ?_
              obtain ⟨fs, h0, h⟩ := xs_some h
              have e1 := xo_some h0
              obtain ⟨t12, ph13, h0, h⟩ := xb_some h
              refine px_cV2 rfl rfl e1 rfl rfl rfl rfl rfl rfl rfl (r_Row_num h0 :) (fun _ _ q => nomatch q.2) (fun r ph' q => ?_)
              obtain ⟨rfl, q⟩ := q
              cases q
              refine px_st (lv' := [_, _, _, _, _, _, _, _, _, _, _, _, _, _, _, _]) rfl rfl rfl rfl rfl rfl rfl ?_
              refine px_ld rfl rfl rfl rfl rfl ?_
              refine px_ic (k := 56) rfl rfl rfl ?_
              refine px_ic (k := 2) rfl rfl rfl ?_
              obtain ⟨fs, h0, h⟩ := xs_some h
              have e1 := xo_some h0
              obtain ⟨t14, ph15, h0, h⟩ := xb_some h
              refine px_cV2 rfl rfl e1 rfl rfl rfl rfl rfl rfl rfl (r_Row_num h0 :) (fun _ _ q => nomatch q.2) (fun r ph' q => ?_)
              obtain ⟨rfl, q⟩ := q
              cases q
              refine px_alu rfl rfl rfl ?_
              refine px_st (lv' := [_, _, _, _, _, _, _, _, _, _, _, _, _, _, _, _]) rfl rfl rfl rfl rfl rfl rfl ?_
              refine px_ld rfl rfl rfl rfl rfl ?_
              refine px_ic (k := 8) rfl rfl rfl ?_
              refine px_icgt rfl (by decide) rfl (fun hc => ?_) (fun hc => ?_)
              · replace h := (if_pos hc).symm.trans h
                refine px_forget (n := 0) (lv' := [_, _, _, _, _, _, _, _, _, _, _, _, _, _, _, _]) rfl ?_
                refine px_forget (n := 1) (lv' := [_, _, _, _, _, _, _, _, _, _, _, _, _, _, _, _]) rfl ?_
                refine px_forget (n := 2) (lv' := [_, _, _, _, _, _, _, _, _, _, _, _, _, _, _, _]) rfl ?_
                refine px_forget (n := 4) (lv' := [_, _, _, _, _, _, _, _, _, _, _, _, _, _, _, _]) rfl ?_
                exact (r_Memory_errorOf_116 h :)
              · replace h := (if_neg hc).symm.trans h
                refine px_ld rfl rfl rfl rfl rfl ?_
                refine px_ld rfl rfl rfl rfl rfl ?_
                refine px_ldc2 rfl rfl rfl ?_
                refine px_ld rfl rfl rfl rfl rfl ?_
                refine px_alu rfl rfl rfl ?_
                refine px_alu rfl rfl rfl ?_
                obtain ⟨fs, h0, h⟩ := xs_some h
                have e1 := xo_some h0
                obtain ⟨t16, ph17, h0, h⟩ := xb_some h
                refine px_cV2 rfl rfl e1 rfl rfl rfl rfl rfl rfl rfl (r_Row_holds h0 :) (fun _ _ q => nomatch q.2) (fun r ph' q => ?_)
                obtain ⟨rfl, q⟩ := q
                cases q
                refine px_ifne rfl (by decide) rfl (fun hc => ?_) (fun hc => ?_)
                · replace h := (if_neg hc).symm.trans h
                  refine px_alu rfl rfl rfl ?_
                  refine px_st (lv' := [_, _, _, _, _, _, _, _, _, _, _, _, _, _, _, _]) rfl rfl rfl rfl rfl rfl rfl ?_
                  refine px_ic (k := 0) rfl rfl rfl ?_
                  refine px_st (lv' := [_, _, _, _, _, _, _, _, _, _, _, _, _, _, _, _]) rfl rfl rfl rfl rfl rfl rfl ?_
                  refine px_ic (k := 0) rfl rfl rfl ?_
                  refine px_st (lv' := [_, _, _, _, _, _, _, _, _, _, _, _, _, _, _, _]) rfl rfl rfl rfl rfl rfl rfl ?_
                  refine px_forget (n := 0) (lv' := [_, _, _, _, _, _, _, _, _, _, _, _, _, _, _, _]) rfl ?_
                  exact (r_Memory_errorOf_127 _ h :)
                · replace h := (if_pos hc).symm.trans h
                  refine px_forget (n := 0) (lv' := [_, _, _, _, _, _, _, _, _, _, _, _, _, _, _, _]) rfl ?_
                  refine px_forget (n := 1) (lv' := [_, _, _, _, _, _, _, _, _, _, _, _, _, _, _, _]) rfl ?_
                  refine px_forget (n := 2) (lv' := [_, _, _, _, _, _, _, _, _, _, _, _, _, _, _, _]) rfl ?_
                  refine px_forget (n := 4) (lv' := [_, _, _, _, _, _, _, _, _, _, _, _, _, _, _, _]) rfl ?_
                  exact (r_Memory_errorOf_116 h :)
            · replace h := (if_neg (fun q => hc ((lg_cmp_eq _ _).mpr q))).symm.trans h
              refine px_forget (n := 0) (lv' := [_, _, _, _, _, _, _, _, _, _, _, _, _, _, _, _]) rfl ?_
              refine px_forget (n := 1) (lv' := [_, _, _, _, _, _, _, _, _, _, _, _, _, _, _, _]) rfl ?_
              exact (r_Memory_errorOf_73 h :)
def f_Memory_findNames_384 (F : Nat) (c : px_CT) (ph : px_H) : Option (Unit × px_H) :=
  some ((), ph)
theorem r_Memory_findNames_384 {l : Launch} {g : px_G} {d F : Nat} {ph : px_H} {r : Unit} {ph' : px_H} (h : f_Memory_findNames_384 F (px_ct g) ph = some (r, ph')) : PW l g (d + 2) m_Memory_findNames 384 [px_u, px_u, px_u, px_u, px_u, px_u, px_u, px_u, px_u, px_u, px_u] [] ph (px_qV r ph') := by
  unfold f_Memory_findNames_384 at h
  cases h
  exact px_vret rfl rfl rfl ⟨rfl, rfl⟩
def f_Memory_findNames_299 (F : Nat) (c : px_CT) (a0 : Nat) (a4 : Int32) (a7 : Int32) (a8 : Int64) (s0 : Int32) (ph : px_H) : Option (Unit × px_H) :=
  if s0 = 0 then
    f_Memory_findNames_384 F c ph
  else
    if (a8 - a8 / ((24 : Int64)) * ((24 : Int64))) = (lN 0) then
      (xgR ph 4 0 a0).bind fun t1 =>
      (xo ph 10 t1).bind fun _ =>
      xb (f_Row_num F c t1 (a4 + (nI 24)) (nI 8) ph) fun t2 ph3 =>
      (xpI ph3 4 8 a0 t2.toInt32).bind fun ph4 =>
      (xpI ph4 4 9 a0 (a8.toInt32 / (nI 24))).bind fun ph5 =>
      (xgR ph5 4 0 a0).bind fun t6 =>
      (xo ph5 10 t6).bind fun _ =>
      xb (f_Row_num F c t6 (a7 + (nI 24)) (nI 8) ph5) fun t7 ph8 =>
      (xpI ph8 4 10 a0 t7.toInt32).bind fun ph9 =>
      (xgR ph9 4 0 a0).bind fun t10 =>
      (xo ph9 10 t10).bind fun _ =>
      xb (f_Row_num F c t10 (a7 + (nI 32)) (nI 8) ph9) fun t11 ph12 =>
      (xpI ph12 4 11 a0 t11.toInt32).bind fun ph13 =>
      f_Memory_findNames_384 F c ph13
    else
      f_Memory_findNames_384 F c ph
theorem r_Memory_findNames_299 {l : Launch} {g : px_G} {d F : Nat} {a0 : Nat} {a4 : Int32} {a7 : Int32} {a8 : Int64} {s0 : Int32} {ph : px_H} {r : Unit} {ph' : px_H} (h : f_Memory_findNames_299 F (px_ct g) a0 a4 a7 a8 s0 ph = some (r, ph')) : PW l g (d + 2) m_Memory_findNames 299 [.ref a0, px_u, px_u, px_u, .int a4, px_u, px_u, .int a7, .long a8, px_u, px_u] [.int s0] ph (px_qV r ph') := by
  unfold f_Memory_findNames_299 at h
  refine px_st (lv' := [_, _, _, _, _, _, _, _, _, _, _]) rfl rfl rfl rfl rfl rfl rfl ?_
  refine px_ld rfl rfl rfl rfl rfl ?_
  refine px_ifeq rfl (by decide) rfl (fun hc => ?_) (fun hc => ?_)
  · replace h := (if_pos hc).symm.trans h
    refine px_forget (n := 0) (lv' := [_, _, _, _, _, _, _, _, _, _, _]) rfl ?_
    refine px_forget (n := 4) (lv' := [_, _, _, _, _, _, _, _, _, _, _]) rfl ?_
    refine px_forget (n := 7) (lv' := [_, _, _, _, _, _, _, _, _, _, _]) rfl ?_
    refine px_forget (n := 8) (lv' := [_, _, _, _, _, _, _, _, _, _, _]) rfl ?_
    refine px_forget (n := 10) (lv' := [_, _, _, _, _, _, _, _, _, _, _]) rfl ?_
    exact (r_Memory_findNames_384 h :)
  · replace h := (if_neg hc).symm.trans h
    refine px_ld rfl rfl rfl rfl rfl ?_
    refine px_ldc2 rfl rfl rfl ?_
    refine px_lrem rfl (by decide) rfl ?_
    refine px_alu rfl rfl rfl ?_
    refine px_alu rfl rfl rfl ?_
    refine px_ifne rfl (by decide) rfl (fun hc => ?_) (fun hc => ?_)
    · replace h := (if_neg (fun q => hc ((lg_cmp_eq _ _).mpr q))).symm.trans h
      refine px_forget (n := 0) (lv' := [_, _, _, _, _, _, _, _, _, _, _]) rfl ?_
      refine px_forget (n := 4) (lv' := [_, _, _, _, _, _, _, _, _, _, _]) rfl ?_
      refine px_forget (n := 7) (lv' := [_, _, _, _, _, _, _, _, _, _, _]) rfl ?_
      refine px_forget (n := 8) (lv' := [_, _, _, _, _, _, _, _, _, _, _]) rfl ?_
      refine px_forget (n := 10) (lv' := [_, _, _, _, _, _, _, _, _, _, _]) rfl ?_
      exact (r_Memory_findNames_384 h :)
    · replace h := (if_pos ((lg_cmp_eq _ _).mp hc)).symm.trans h
      refine px_ld rfl rfl rfl rfl rfl ?_
      refine px_ld rfl rfl rfl rfl rfl ?_
      obtain ⟨t1, h0, h⟩ := xs_some h
      obtain ⟨fs, e1, e2⟩ := xgR_some h0
      refine px_get rfl e1 e2 rfl ?_
      refine px_ld rfl rfl rfl rfl rfl ?_
      refine px_ic (k := 24) rfl rfl rfl ?_
      refine px_alu rfl rfl rfl ?_
      refine px_ic (k := 8) rfl rfl rfl ?_
      obtain ⟨fs, h0, h⟩ := xs_some h
      have e1 := xo_some h0
      obtain ⟨t2, ph3, h0, h⟩ := xb_some h
      refine px_cV2 rfl rfl e1 rfl rfl rfl rfl rfl rfl rfl (r_Row_num h0 :) (fun _ _ q => nomatch q.2) (fun r ph' q => ?_)
      obtain ⟨rfl, q⟩ := q
      cases q
      refine px_alu rfl rfl rfl ?_
      obtain ⟨ph4, h0, h⟩ := xs_some h
      obtain ⟨fs, e1, e2, e3⟩ := xpI_some h0
      subst e3
      refine px_put rfl e1 e2 trivial rfl ?_
      refine px_ld rfl rfl rfl rfl rfl ?_
      refine px_ld rfl rfl rfl rfl rfl ?_
      refine px_alu rfl rfl rfl ?_
      refine px_ic (k := 24) rfl rfl rfl ?_
      refine px_idiv rfl (by decide) rfl ?_
      obtain ⟨ph5, h0, h⟩ := xs_some h
      obtain ⟨fs, e1, e2, e3⟩ := xpI_some h0
      subst e3
      refine px_put rfl e1 e2 trivial rfl ?_
      refine px_ld rfl rfl rfl rfl rfl ?_
      refine px_ld rfl rfl rfl rfl rfl ?_
      obtain ⟨t6, h0, h⟩ := xs_some h
      obtain ⟨fs, e1, e2⟩ := xgR_some h0
      refine px_get rfl e1 e2 rfl ?_
      refine px_ld rfl rfl rfl rfl rfl ?_
      refine px_ic (k := 24) rfl rfl rfl ?_
      refine px_alu rfl rfl rfl ?_
      refine px_ic (k := 8) rfl rfl rfl ?_
      obtain ⟨fs, h0, h⟩ := xs_some h
      have e1 := xo_some h0
      obtain ⟨t7, ph8, h0, h⟩ := xb_some h
      refine px_cV2 rfl rfl e1 rfl rfl rfl rfl rfl rfl rfl (r_Row_num h0 :) (fun _ _ q => nomatch q.2) (fun r ph' q => ?_)
      obtain ⟨rfl, q⟩ := q
      cases q
      refine px_alu rfl rfl rfl ?_
      obtain ⟨ph9, h0, h⟩ := xs_some h
      obtain ⟨fs, e1, e2, e3⟩ := xpI_some h0
      subst e3
      refine px_put rfl e1 e2 trivial rfl ?_
      refine px_ld rfl rfl rfl rfl rfl ?_
      refine px_ld rfl rfl rfl rfl rfl ?_
      obtain ⟨t10, h0, h⟩ := xs_some h
      obtain ⟨fs, e1, e2⟩ := xgR_some h0
      refine px_get rfl e1 e2 rfl ?_
      refine px_ld rfl rfl rfl rfl rfl ?_
      refine px_ic (k := 32) rfl rfl rfl ?_
      refine px_alu rfl rfl rfl ?_
      refine px_ic (k := 8) rfl rfl rfl ?_
      obtain ⟨fs, h0, h⟩ := xs_some h
      have e1 := xo_some h0
      obtain ⟨t11, ph12, h0, h⟩ := xb_some h
      refine px_cV2 rfl rfl e1 rfl rfl rfl rfl rfl rfl rfl (r_Row_num h0 :) (fun _ _ q => nomatch q.2) (fun r ph' q => ?_)
      obtain ⟨rfl, q⟩ := q
      cases q
      refine px_alu rfl rfl rfl ?_
      obtain ⟨ph13, h0, h⟩ := xs_some h
      obtain ⟨fs, e1, e2, e3⟩ := xpI_some h0
      subst e3
      refine px_put rfl e1 e2 trivial rfl ?_
      refine px_forget (n := 0) (lv' := [_, _, _, _, _, _, _, _, _, _, _]) rfl ?_
      refine px_forget (n := 4) (lv' := [_, _, _, _, _, _, _, _, _, _, _]) rfl ?_
      refine px_forget (n := 7) (lv' := [_, _, _, _, _, _, _, _, _, _, _]) rfl ?_
      refine px_forget (n := 8) (lv' := [_, _, _, _, _, _, _, _, _, _, _]) rfl ?_
      refine px_forget (n := 10) (lv' := [_, _, _, _, _, _, _, _, _, _, _]) rfl ?_
      exact (r_Memory_findNames_384 h :)
def f_Memory_findNames_298 (F : Nat) (c : px_CT) (a0 : Nat) (a4 : Int32) (a7 : Int32) (a8 : Int64) (ph : px_H) : Option (Unit × px_H) :=
  f_Memory_findNames_299 F c a0 a4 a7 a8 (nI 0) ph
theorem r_Memory_findNames_298 {l : Launch} {g : px_G} {d F : Nat} {a0 : Nat} {a4 : Int32} {a7 : Int32} {a8 : Int64} {ph : px_H} {r : Unit} {ph' : px_H} (h : f_Memory_findNames_298 F (px_ct g) a0 a4 a7 a8 ph = some (r, ph')) : PW l g (d + 2) m_Memory_findNames 298 [.ref a0, px_u, px_u, px_u, .int a4, px_u, px_u, .int a7, .long a8, px_u, px_u] [] ph (px_qV r ph') := by
  unfold f_Memory_findNames_298 at h
  refine px_ic (k := 0) rfl rfl rfl ?_
  exact (r_Memory_findNames_299 h :)
def f_Memory_findNames_213 (F : Nat) (c : px_CT) (ph : px_H) : Option (Unit × px_H) :=
  some ((), ph)
theorem r_Memory_findNames_213 {l : Launch} {g : px_G} {d F : Nat} {ph : px_H} {r : Unit} {ph' : px_H} (h : f_Memory_findNames_213 F (px_ct g) ph = some (r, ph')) : PW l g (d + 2) m_Memory_findNames 213 [px_u, px_u, px_u, px_u, px_u, px_u, px_u, px_u, px_u, px_u, px_u] [] ph (px_qV r ph') := by
  unfold f_Memory_findNames_213 at h
  cases h
  exact px_vret rfl rfl rfl ⟨rfl, rfl⟩
def f_Memory_findNames_135 (F : Nat) (c : px_CT) (a0 : Nat) (a1 : Int64) (a3 : Int32) (a4 : Int32) (ph : px_H) : Option (Unit × px_H) :=
  (xgR ph 4 0 a0).bind fun t1 =>
  (xo ph 10 t1).bind fun _ =>
  xb (f_Row_num F c t1 (a4 + (nI 40)) (nI 4) ph) fun t2 ph3 =>
  (xgR ph3 4 0 a0).bind fun t4 =>
  (xo ph3 10 t4).bind fun _ =>
  xb (f_Row_num F c t4 (a4 + (nI 4)) (nI 4) ph3) fun t5 ph6 =>
  if t5 = ((2 : Int64)) then
    if a3.toInt64 ≤ t2 then
      f_Memory_findNames_213 F c ph6
    else
      (xgR ph6 4 0 a0).bind fun t7 =>
      (xo ph6 10 t7).bind fun _ =>
      xb (f_Row_num F c t7 ((a1.toInt32 + ((nI 64) * ((if ((24 : Int64)) < t2 then ((24 : Int64)) else t2).toInt32))) + (nI 4)) (nI 4) ph6) fun t8 ph9 =>
      if t8 = ((3 : Int64)) then
        (xgR ph9 4 0 a0).bind fun t10 =>
        (xo ph9 10 t10).bind fun _ =>
        xb (f_Row_num F c t10 (a4 + (nI 32)) (nI 8) ph9) fun t11 ph12 =>
        (xgR ph12 4 0 a0).bind fun t13 =>
        (xgR ph12 4 0 a0).bind fun t14 =>
        (xo ph12 10 t14).bind fun _ =>
        xb (f_Row_num F c t14 (a4 + (nI 24)) (nI 8) ph12) fun t15 ph16 =>
        (xo ph16 10 t13).bind fun _ =>
        xb (f_Row_holds F c t13 t15 t11 ph16) fun t17 ph18 =>
        if t17 = 0 then
          f_Memory_findNames_298 F c a0 a4 (a1.toInt32 + ((nI 64) * ((if ((24 : Int64)) < t2 then ((24 : Int64)) else t2).toInt32))) t11 ph18
        else
          (xgR ph18 4 0 a0).bind fun t19 =>
          (xgR ph18 4 0 a0).bind fun t20 =>
          (xo ph18 10 t20).bind fun _ =>
          xb (f_Row_num F c t20 ((a1.toInt32 + ((nI 64) * ((if ((24 : Int64)) < t2 then ((24 : Int64)) else t2).toInt32))) + (nI 24)) (nI 8) ph18) fun t21 ph22 =>
          (xgR ph22 4 0 a0).bind fun t23 =>
          (xo ph22 10 t23).bind fun _ =>
          xb (f_Row_num F c t23 ((a1.toInt32 + ((nI 64) * ((if ((24 : Int64)) < t2 then ((24 : Int64)) else t2).toInt32))) + (nI 32)) (nI 8) ph22) fun t24 ph25 =>
          (xo ph25 10 t19).bind fun _ =>
          xb (f_Row_holds F c t19 t21 t24 ph25) fun t26 ph27 =>
          if t26 = 0 then
            f_Memory_findNames_298 F c a0 a4 (a1.toInt32 + ((nI 64) * ((if ((24 : Int64)) < t2 then ((24 : Int64)) else t2).toInt32))) t11 ph27
          else
            f_Memory_findNames_299 F c a0 a4 (a1.toInt32 + ((nI 64) * ((if ((24 : Int64)) < t2 then ((24 : Int64)) else t2).toInt32))) t11 (nI 1) ph27
      else
        f_Memory_findNames_213 F c ph9
  else
    f_Memory_findNames_213 F c ph6
theorem r_Memory_findNames_135 {l : Launch} {g : px_G} {d F : Nat} {a0 : Nat} {a1 : Int64} {a3 : Int32} {a4 : Int32} {ph : px_H} {r : Unit} {ph' : px_H} (h : f_Memory_findNames_135 F (px_ct g) a0 a1 a3 a4 ph = some (r, ph')) : PW l g (d + 2) m_Memory_findNames 135 [.ref a0, .long a1, px_u, .int a3, .int a4, px_u, px_u, px_u, px_u, px_u, px_u] [] ph (px_qV r ph') := by
  unfold f_Memory_findNames_135 at h
  refine px_ld rfl rfl rfl rfl rfl ?_
  obtain ⟨t1, h0, h⟩ := xs_some h
  obtain ⟨fs, e1, e2⟩ := xgR_some h0
  refine px_get rfl e1 e2 rfl ?_
  refine px_ld rfl rfl rfl rfl rfl ?_
  refine px_ic (k := 40) rfl rfl rfl ?_
  refine px_alu rfl rfl rfl ?_
  refine px_ic (k := 4) rfl rfl rfl ?_
  obtain ⟨fs, h0, h⟩ := xs_some h
  have e1 := xo_some h0
  obtain ⟨t2, ph3, h0, h⟩ := xb_some h
  refine px_cV2 rfl rfl e1 rfl rfl rfl rfl rfl rfl rfl (r_Row_num h0 :) (fun _ _ q => nomatch q.2) (fun r ph' q => ?_)
  obtain ⟨rfl, q⟩ := q
  cases q
  refine px_st (lv' := [_, _, _, _, _, _, _, _, _, _, _]) rfl rfl rfl rfl rfl rfl rfl ?_
  refine px_ld rfl rfl rfl rfl rfl ?_
  refine px_alu rfl rfl rfl ?_
  refine px_ic (k := 64) rfl rfl rfl ?_
  refine px_ld rfl rfl rfl rfl rfl ?_
  refine px_ldc2 rfl rfl rfl ?_
  refine px_minl rfl rfl rfl ?_
  refine px_alu rfl rfl rfl ?_
  refine px_alu rfl rfl rfl ?_
  refine px_alu rfl rfl rfl ?_
  refine px_st (lv' := [_, _, _, _, _, _, _, _, _, _, _]) rfl rfl rfl rfl rfl rfl rfl ?_
  refine px_ld rfl rfl rfl rfl rfl ?_
  obtain ⟨t4, h0, h⟩ := xs_some h
  obtain ⟨fs, e1, e2⟩ := xgR_some h0
  refine px_get rfl e1 e2 rfl ?_
  refine px_ld rfl rfl rfl rfl rfl ?_
  refine px_ic (k := 4) rfl rfl rfl ?_
  refine px_alu rfl rfl rfl ?_
  refine px_ic (k := 4) rfl rfl rfl ?_
  obtain ⟨fs, h0, h⟩ := xs_some h
  have e1 := xo_some h0
  obtain ⟨t5, ph6, h0, h⟩ := xb_some h
  refine px_cV2 rfl rfl e1 rfl rfl rfl rfl rfl rfl rfl (r_Row_num h0 :) (fun _ _ q => nomatch q.2) (fun r ph' q => ?_)
  obtain ⟨rfl, q⟩ := q
  cases q
  refine px_ldc2 rfl rfl rfl ?_
  refine px_alu rfl rfl rfl ?_
  refine px_ifne rfl (by decide) rfl (fun hc => ?_) (fun hc => ?_)
  · replace h := (if_neg (fun q => hc ((lg_cmp_eq _ _).mpr q))).symm.trans h
    refine px_forget (n := 0) (lv' := [_, _, _, _, _, _, _, _, _, _, _]) rfl ?_
    refine px_forget (n := 1) (lv' := [_, _, _, _, _, _, _, _, _, _, _]) rfl ?_
    refine px_forget (n := 3) (lv' := [_, _, _, _, _, _, _, _, _, _, _]) rfl ?_
    refine px_forget (n := 4) (lv' := [_, _, _, _, _, _, _, _, _, _, _]) rfl ?_
    refine px_forget (n := 5) (lv' := [_, _, _, _, _, _, _, _, _, _, _]) rfl ?_
    refine px_forget (n := 7) (lv' := [_, _, _, _, _, _, _, _, _, _, _]) rfl ?_
    exact (r_Memory_findNames_213 h :)
  · replace h := (if_pos ((lg_cmp_eq _ _).mp hc)).symm.trans h
    refine px_ld rfl rfl rfl rfl rfl ?_
    refine px_ld rfl rfl rfl rfl rfl ?_
    refine px_alu rfl rfl rfl ?_
    refine px_alu rfl rfl rfl ?_
    refine px_ifge rfl (by decide) rfl (fun hc => ?_) (fun hc => ?_)
    · replace h := (if_pos ((lg_cmp_ge _ _).mp hc)).symm.trans h
      refine px_forget (n := 0) (lv' := [_, _, _, _, _, _, _, _, _, _, _]) rfl ?_
      refine px_forget (n := 1) (lv' := [_, _, _, _, _, _, _, _, _, _, _]) rfl ?_
      refine px_forget (n := 3) (lv' := [_, _, _, _, _, _, _, _, _, _, _]) rfl ?_
      refine px_forget (n := 4) (lv' := [_, _, _, _, _, _, _, _, _, _, _]) rfl ?_
      refine px_forget (n := 5) (lv' := [_, _, _, _, _, _, _, _, _, _, _]) rfl ?_
      refine px_forget (n := 7) (lv' := [_, _, _, _, _, _, _, _, _, _, _]) rfl ?_
      exact (r_Memory_findNames_213 h :)
    · replace h := (if_neg (fun q => hc ((lg_cmp_ge _ _).mpr q))).symm.trans h
      refine px_ld rfl rfl rfl rfl rfl ?_
      obtain ⟨t7, h0, h⟩ := xs_some h
      obtain ⟨fs, e1, e2⟩ := xgR_some h0
      refine px_get rfl e1 e2 rfl ?_
      refine px_ld rfl rfl rfl rfl rfl ?_
      refine px_ic (k := 4) rfl rfl rfl ?_
      refine px_alu rfl rfl rfl ?_
      refine px_ic (k := 4) rfl rfl rfl ?_
      obtain ⟨fs, h0, h⟩ := xs_some h
      have e1 := xo_some h0
      obtain ⟨t8, ph9, h0, h⟩ := xb_some h
      refine px_cV2 rfl rfl e1 rfl rfl rfl rfl rfl rfl rfl (r_Row_num h0 :) (fun _ _ q => nomatch q.2) (fun r ph' q => ?_)
      obtain ⟨rfl, q⟩ := q
      cases q
      refine px_ldc2 rfl rfl rfl ?_
      refine px_alu rfl rfl rfl ?_
      refine px_ifeq rfl (by decide) rfl (fun hc => ?_) (fun hc => ?_)
      · replace h := (if_pos ((lg_cmp_eq _ _).mp hc)).symm.trans h
        refine px_ld rfl rfl rfl rfl rfl ?_
        obtain ⟨t10, h0, h⟩ := xs_some h
        obtain ⟨fs, e1, e2⟩ := xgR_some h0
        refine px_get rfl e1 e2 rfl ?_
        refine px_ld rfl rfl rfl rfl rfl ?_
        refine px_ic (k := 32) rfl rfl rfl ?_
        refine px_alu rfl rfl rfl ?_
        refine px_ic (k := 8) rfl rfl rfl ?_
        obtain ⟨fs, h0, h⟩ := xs_some h
        have e1 := xo_some h0
        obtain ⟨t11, ph12, h0, h⟩ := xb_some h
        refine px_cV2 rfl rfl e1 rfl rfl rfl rfl rfl rfl rfl (r_Row_num h0 :) (fun _ _ q => nomatch q.2) (fun r ph' q => ?_)
        obtain ⟨rfl, q⟩ := q
        cases q
        refine px_st (lv' := [_, _, _, _, _, _, _, _, _, _, _]) rfl rfl rfl rfl rfl rfl rfl ?_
        refine px_ld rfl rfl rfl rfl rfl ?_
        obtain ⟨t13, h0, h⟩ := xs_some h
        obtain ⟨fs, e1, e2⟩ := xgR_some h0
        refine px_get rfl e1 e2 rfl ?_
        refine px_ld rfl rfl rfl rfl rfl ?_
        obtain ⟨t14, h0, h⟩ := xs_some h
        obtain ⟨fs, e1, e2⟩ := xgR_some h0
        refine px_get rfl e1 e2 rfl ?_
        refine px_ld rfl rfl rfl rfl rfl ?_
        refine px_ic (k := 24) rfl rfl rfl ?_
        refine px_alu rfl rfl rfl ?_
        refine px_ic (k := 8) rfl rfl rfl ?_
        obtain ⟨fs, h0, h⟩ := xs_some h
        have e1 := xo_some h0
        obtain ⟨t15, ph16, h0, h⟩ := xb_some h
        refine px_cV2 rfl rfl e1 rfl rfl rfl rfl rfl rfl rfl (r_Row_num h0 :) (fun _ _ q => nomatch q.2) (fun r ph' q => ?_)
        obtain ⟨rfl, q⟩ := q
        cases q
        refine px_ld rfl rfl rfl rfl rfl ?_
        obtain ⟨fs, h0, h⟩ := xs_some h
        have e1 := xo_some h0
        obtain ⟨t17, ph18, h0, h⟩ := xb_some h
        refine px_cV2 rfl rfl e1 rfl rfl rfl rfl rfl rfl rfl (r_Row_holds h0 :) (fun _ _ q => nomatch q.2) (fun r ph' q => ?_)
        obtain ⟨rfl, q⟩ := q
        cases q
        refine px_ifeq rfl (by decide) rfl (fun hc => ?_) (fun hc => ?_)
        · replace h := (if_pos hc).symm.trans h
          refine px_forget (n := 1) (lv' := [_, _, _, _, _, _, _, _, _, _, _]) rfl ?_
          refine px_forget (n := 3) (lv' := [_, _, _, _, _, _, _, _, _, _, _]) rfl ?_
          refine px_forget (n := 5) (lv' := [_, _, _, _, _, _, _, _, _, _, _]) rfl ?_
          exact (r_Memory_findNames_298 h :)
        · replace h := (if_neg hc).symm.trans h
          refine px_ld rfl rfl rfl rfl rfl ?_
          obtain ⟨t19, h0, h⟩ := xs_some h
          obtain ⟨fs, e1, e2⟩ := xgR_some h0
          refine px_get rfl e1 e2 rfl ?_
          refine px_ld rfl rfl rfl rfl rfl ?_
          obtain ⟨t20, h0, h⟩ := xs_some h
          obtain ⟨fs, e1, e2⟩ := xgR_some h0
          refine px_get rfl e1 e2 rfl ?_
          refine px_ld rfl rfl rfl rfl rfl ?_
          refine px_ic (k := 24) rfl rfl rfl ?_
          refine px_alu rfl rfl rfl ?_
          refine px_ic (k := 8) rfl rfl rfl ?_
          obtain ⟨fs, h0, h⟩ := xs_some h
          have e1 := xo_some h0
          obtain ⟨t21, ph22, h0, h⟩ := xb_some h
          refine px_cV2 rfl rfl e1 rfl rfl rfl rfl rfl rfl rfl (r_Row_num h0 :) (fun _ _ q => nomatch q.2) (fun r ph' q => ?_)
          obtain ⟨rfl, q⟩ := q
          cases q
          refine px_ld rfl rfl rfl rfl rfl ?_
          obtain ⟨t23, h0, h⟩ := xs_some h
          obtain ⟨fs, e1, e2⟩ := xgR_some h0
          refine px_get rfl e1 e2 rfl ?_
          refine px_ld rfl rfl rfl rfl rfl ?_
          refine px_ic (k := 32) rfl rfl rfl ?_
          refine px_alu rfl rfl rfl ?_
          refine px_ic (k := 8) rfl rfl rfl ?_
          obtain ⟨fs, h0, h⟩ := xs_some h
          have e1 := xo_some h0
          obtain ⟨t24, ph25, h0, h⟩ := xb_some h
          refine px_cV2 rfl rfl e1 rfl rfl rfl rfl rfl rfl rfl (r_Row_num h0 :) (fun _ _ q => nomatch q.2) (fun r ph' q => ?_)
          obtain ⟨rfl, q⟩ := q
          cases q
          obtain ⟨fs, h0, h⟩ := xs_some h
          have e1 := xo_some h0
          obtain ⟨t26, ph27, h0, h⟩ := xb_some h
          refine px_cV2 rfl rfl e1 rfl rfl rfl rfl rfl rfl rfl (r_Row_holds h0 :) (fun _ _ q => nomatch q.2) (fun r ph' q => ?_)
          obtain ⟨rfl, q⟩ := q
          cases q
          refine px_ifeq rfl (by decide) rfl (fun hc => ?_) (fun hc => ?_)
          · replace h := (if_pos hc).symm.trans h
            refine px_forget (n := 1) (lv' := [_, _, _, _, _, _, _, _, _, _, _]) rfl ?_
            refine px_forget (n := 3) (lv' := [_, _, _, _, _, _, _, _, _, _, _]) rfl ?_
            refine px_forget (n := 5) (lv' := [_, _, _, _, _, _, _, _, _, _, _]) rfl ?_
            exact (r_Memory_findNames_298 h :)
          · replace h := (if_neg hc).symm.trans h
            refine px_ic (k := 1) rfl rfl rfl ?_
            refine px_goto rfl (by decide) rfl ?_
            refine px_forget (n := 1) (lv' := [_, _, _, _, _, _, _, _, _, _, _]) rfl ?_
            refine px_forget (n := 3) (lv' := [_, _, _, _, _, _, _, _, _, _, _]) rfl ?_
            refine px_forget (n := 5) (lv' := [_, _, _, _, _, _, _, _, _, _, _]) rfl ?_
            exact (r_Memory_findNames_299 h :)
      · replace h := (if_neg (fun q => hc ((lg_cmp_eq _ _).mpr q))).symm.trans h
        refine px_forget (n := 0) (lv' := [_, _, _, _, _, _, _, _, _, _, _]) rfl ?_
        refine px_forget (n := 1) (lv' := [_, _, _, _, _, _, _, _, _, _, _]) rfl ?_
        refine px_forget (n := 3) (lv' := [_, _, _, _, _, _, _, _, _, _, _]) rfl ?_
        refine px_forget (n := 4) (lv' := [_, _, _, _, _, _, _, _, _, _, _]) rfl ?_
        refine px_forget (n := 5) (lv' := [_, _, _, _, _, _, _, _, _, _, _]) rfl ?_
        refine px_forget (n := 7) (lv' := [_, _, _, _, _, _, _, _, _, _, _]) rfl ?_
        exact (r_Memory_findNames_213 h :)
def f_Memory_findNames_127 (F : Nat) (c : px_CT) (k84 : Nat → Int64 → Int32 → Int32 → Int32 → px_H → Option (Unit × px_H)) (a0 : Nat) (a1 : Int64) (a3 : Int32) (a5 : Int32) (s0 : Int32) (ph : px_H) : Option (Unit × px_H) :=
  k84 a0 a1 a3 s0 (a5 + Int32.ofInt (-1)) ph
theorem r_Memory_findNames_127 {l : Launch} {g : px_G} {d F : Nat} {k84 : Nat → Int64 → Int32 → Int32 → Int32 → px_H → Option (Unit × px_H)} (hk84 : ∀ {a0 : Nat} {a1 : Int64} {a3 : Int32} {a4 : Int32} {a5 : Int32} {ph : px_H} {r : Unit} {ph' : px_H}, k84 a0 a1 a3 a4 a5 ph = some (r, ph') → PW l g (d + 2) m_Memory_findNames 84 [.ref a0, .long a1, px_u, .int a3, .int a4, .int a5, px_u, px_u, px_u, px_u, px_u] [] ph (px_qV r ph')) {a0 : Nat} {a1 : Int64} {a3 : Int32} {a5 : Int32} {s0 : Int32} {ph : px_H} {r : Unit} {ph' : px_H} (h : f_Memory_findNames_127 F (px_ct g) k84 a0 a1 a3 a5 s0 ph = some (r, ph')) : PW l g (d + 2) m_Memory_findNames 127 [.ref a0, .long a1, px_u, .int a3, px_u, .int a5, px_u, px_u, px_u, px_u, px_u] [.int s0] ph (px_qV r ph') := by
  unfold f_Memory_findNames_127 at h
  refine px_st (lv' := [_, _, _, _, _, _, _, _, _, _, _]) rfl rfl rfl rfl rfl rfl rfl ?_
  refine px_iinc (lv' := [_, _, _, _, _, _, _, _, _, _, _]) rfl rfl rfl rfl rfl rfl ?_
  refine px_goto rfl (by decide) rfl ?_
  exact (hk84 h :)
def f_Memory_findNames_84 (F : Nat) (c : px_CT) : Nat → Nat → Int64 → Int32 → Int32 → Int32 → px_H → Option (Unit × px_H)
  | 0, _, _, _, _, _, _ => none
  | n + 1, a0, a1, a3, a4, a5, ph =>
    if a5 < 0 then
      f_Memory_findNames_135 F c a0 a1 a3 a4 ph
    else
      (xgR ph 4 0 a0).bind fun t1 =>
      (xo ph 10 t1).bind fun _ =>
      xb (f_Row_num F c t1 ((a1.toInt32 + ((nI 64) * a5)) + (nI 4)) (nI 4) ph) fun t2 ph3 =>
      if t2 = ((2 : Int64)) then
        f_Memory_findNames_127 F c (f_Memory_findNames_84 F c n) a0 a1 a3 a5 (a1.toInt32 + ((nI 64) * a5)) ph3
      else
        f_Memory_findNames_127 F c (f_Memory_findNames_84 F c n) a0 a1 a3 a5 a4 ph3
theorem r_Memory_findNames_84 {l : Launch} {g : px_G} {d F : Nat} : ∀ (n : Nat) {a0 : Nat} {a1 : Int64} {a3 : Int32} {a4 : Int32} {a5 : Int32} {ph : px_H} {r : Unit} {ph' : px_H}, f_Memory_findNames_84 F (px_ct g) n a0 a1 a3 a4 a5 ph = some (r, ph') → PW l g (d + 2) m_Memory_findNames 84 [.ref a0, .long a1, px_u, .int a3, .int a4, .int a5, px_u, px_u, px_u, px_u, px_u] [] ph (px_qV r ph') := by
  intro n
  induction n with
  | zero => intro _ _ _ _ _ _ _ _ h; cases h
  | succ n ih =>
    intro a0 a1 a3 a4 a5 ph r ph' h
    unfold f_Memory_findNames_84 at h
    refine px_ld rfl rfl rfl rfl rfl ?_
    refine px_iflt rfl (by decide) rfl (fun hc => ?_) (fun hc => ?_)
    · replace h := (if_pos hc).symm.trans h
      refine px_forget (n := 5) (lv' := [_, _, _, _, _, _, _, _, _, _, _]) rfl ?_
      exact (r_Memory_findNames_135 h :)
    · replace h := (if_neg hc).symm.trans h
      refine px_ld rfl rfl rfl rfl rfl ?_
      obtain ⟨t1, h0, h⟩ := xs_some h
      obtain ⟨fs, e1, e2⟩ := xgR_some h0
      refine px_get rfl e1 e2 rfl ?_
      refine px_ld rfl rfl rfl rfl rfl ?_
      refine px_alu rfl rfl rfl ?_
      refine px_ic (k := 64) rfl rfl rfl ?_
      refine px_ld rfl rfl rfl rfl rfl ?_
      refine px_alu rfl rfl rfl ?_
      refine px_alu rfl rfl rfl ?_
      refine px_ic (k := 4) rfl rfl rfl ?_
      refine px_alu rfl rfl rfl ?_
      refine px_ic (k := 4) rfl rfl rfl ?_
      obtain ⟨fs, h0, h⟩ := xs_some h
      have e1 := xo_some h0
      obtain ⟨t2, ph3, h0, h⟩ := xb_some h
      refine px_cV2 rfl rfl e1 rfl rfl rfl rfl rfl rfl rfl (r_Row_num h0 :) (fun _ _ q => nomatch q.2) (fun r ph' q => ?_)
      obtain ⟨rfl, q⟩ := q
      cases q
      refine px_ldc2 rfl rfl rfl ?_
      refine px_alu rfl rfl rfl ?_
      refine px_ifne rfl (by decide) rfl (fun hc => ?_) (fun hc => ?_)
      · replace h := (if_neg (fun q => hc ((lg_cmp_eq _ _).mpr q))).symm.trans h
        refine px_ld rfl rfl rfl rfl rfl ?_
        refine px_forget (n := 4) (lv' := [_, _, _, _, _, _, _, _, _, _, _]) rfl ?_
        exact (r_Memory_findNames_127 @ih h :)
      · replace h := (if_pos ((lg_cmp_eq _ _).mp hc)).symm.trans h
        refine px_ld rfl rfl rfl rfl rfl ?_
        refine px_alu rfl rfl rfl ?_
        refine px_ic (k := 64) rfl rfl rfl ?_
        refine px_ld rfl rfl rfl rfl rfl ?_
        refine px_alu rfl rfl rfl ?_
        refine px_alu rfl rfl rfl ?_
        refine px_goto rfl (by decide) rfl ?_
        refine px_forget (n := 4) (lv' := [_, _, _, _, _, _, _, _, _, _, _]) rfl ?_
        exact (r_Memory_findNames_127 @ih h :)
def f_Memory_findNames_74 (F : Nat) (c : px_CT) (ph : px_H) : Option (Unit × px_H) :=
  some ((), ph)
theorem r_Memory_findNames_74 {l : Launch} {g : px_G} {d F : Nat} {ph : px_H} {r : Unit} {ph' : px_H} (h : f_Memory_findNames_74 F (px_ct g) ph = some (r, ph')) : PW l g (d + 2) m_Memory_findNames 74 [px_u, px_u, px_u, px_u, px_u, px_u, px_u, px_u, px_u, px_u, px_u] [] ph (px_qV r ph') := by
  unfold f_Memory_findNames_74 at h
  cases h
  exact px_vret rfl rfl rfl ⟨rfl, rfl⟩
def f_Memory_findNames (F : Nat) (c : px_CT) (a0 : Nat) (ph : px_H) : Option (Unit × px_H) :=
  (xpI ph 4 9 a0 (nI 0)).bind fun ph1 =>
  (xgR ph1 4 0 a0).bind fun t2 =>
  (xo ph1 10 t2).bind fun _ =>
  xb (f_Row_num F c t2 (nI 40) (nI 8) ph1) fun t3 ph4 =>
  (xgR ph4 4 0 a0).bind fun t5 =>
  (xo ph4 10 t5).bind fun _ =>
  xb (f_Row_num F c t5 (nI 60) (nI 2) ph4) fun t6 ph7 =>
  (xgR ph7 4 0 a0).bind fun t8 =>
  (xo ph7 10 t8).bind fun _ =>
  xb (f_Row_num F c t8 (nI 58) (nI 2) ph7) fun t9 ph10 =>
  if t9 = ((64 : Int64)) then
    if t6.toInt32 < (nI 1) then
      f_Memory_findNames_74 F c ph10
    else
      if (nI 24) < t6.toInt32 then
        f_Memory_findNames_74 F c ph10
      else
        (xgR ph10 4 0 a0).bind fun t11 =>
        (xo ph10 10 t11).bind fun _ =>
        xb (f_Row_holds F c t11 t3 (((64 : Int64)) * t6.toInt32.toInt64) ph10) fun t12 ph13 =>
        if t12 = 0 then
          f_Memory_findNames_74 F c ph13
        else
          f_Memory_findNames_84 F c F a0 t3 t6.toInt32 t3.toInt32 (t6.toInt32 - (nI 1)) ph13
  else
    f_Memory_findNames_74 F c ph10
theorem r_Memory_findNames {l : Launch} {g : px_G} {d F : Nat} {a0 : Nat} {ph : px_H} {r : Unit} {ph' : px_H} (h : f_Memory_findNames F (px_ct g) a0 ph = some (r, ph')) : PW l g (d + 2) m_Memory_findNames 0 [.ref a0, px_u, px_u, px_u, px_u, px_u, px_u, px_u, px_u, px_u, px_u] [] ph (px_qV r ph') := by
  unfold f_Memory_findNames at h
  refine px_ld rfl rfl rfl rfl rfl ?_
  refine px_ic (k := 0) rfl rfl rfl ?_
  obtain ⟨ph1, h0, h⟩ := xs_some h
  obtain ⟨fs, e1, e2, e3⟩ := xpI_some h0
  subst e3
  refine px_put rfl e1 e2 trivial rfl ?_
  refine px_ld rfl rfl rfl rfl rfl ?_
  obtain ⟨t2, h0, h⟩ := xs_some h
  obtain ⟨fs, e1, e2⟩ := xgR_some h0
  refine px_get rfl e1 e2 rfl ?_
  refine px_ic (k := 40) rfl rfl rfl ?_
  refine px_ic (k := 8) rfl rfl rfl ?_
  obtain ⟨fs, h0, h⟩ := xs_some h
  have e1 := xo_some h0
  obtain ⟨t3, ph4, h0, h⟩ := xb_some h
  refine px_cV2 rfl rfl e1 rfl rfl rfl rfl rfl rfl rfl (r_Row_num h0 :) (fun _ _ q => nomatch q.2) (fun r ph' q => ?_)
  obtain ⟨rfl, q⟩ := q
  cases q
  refine px_st (lv' := [_, _, _, _, _, _, _, _, _, _, _]) rfl rfl rfl rfl rfl rfl rfl ?_
  refine px_ld rfl rfl rfl rfl rfl ?_
  obtain ⟨t5, h0, h⟩ := xs_some h
  obtain ⟨fs, e1, e2⟩ := xgR_some h0
  refine px_get rfl e1 e2 rfl ?_
  refine px_ic (k := 60) rfl rfl rfl ?_
  refine px_ic (k := 2) rfl rfl rfl ?_
  obtain ⟨fs, h0, h⟩ := xs_some h
  have e1 := xo_some h0
  obtain ⟨t6, ph7, h0, h⟩ := xb_some h
  refine px_cV2 rfl rfl e1 rfl rfl rfl rfl rfl rfl rfl (r_Row_num h0 :) (fun _ _ q => nomatch q.2) (fun r ph' q => ?_)
  obtain ⟨rfl, q⟩ := q
  cases q
  refine px_alu rfl rfl rfl ?_
  refine px_st (lv' := [_, _, _, _, _, _, _, _, _, _, _]) rfl rfl rfl rfl rfl rfl rfl ?_
  refine px_ld rfl rfl rfl rfl rfl ?_
  obtain ⟨t8, h0, h⟩ := xs_some h
  obtain ⟨fs, e1, e2⟩ := xgR_some h0
  refine px_get rfl e1 e2 rfl ?_
  refine px_ic (k := 58) rfl rfl rfl ?_
  refine px_ic (k := 2) rfl rfl rfl ?_
  obtain ⟨fs, h0, h⟩ := xs_some h
  have e1 := xo_some h0
  obtain ⟨t9, ph10, h0, h⟩ := xb_some h
  refine px_cV2 rfl rfl e1 rfl rfl rfl rfl rfl rfl rfl (r_Row_num h0 :) (fun _ _ q => nomatch q.2) (fun r ph' q => ?_)
  obtain ⟨rfl, q⟩ := q
  cases q
  refine px_ldc2 rfl rfl rfl ?_
  refine px_alu rfl rfl rfl ?_
  refine px_ifne rfl (by decide) rfl (fun hc => ?_) (fun hc => ?_)
  · replace h := (if_neg (fun q => hc ((lg_cmp_eq _ _).mpr q))).symm.trans h
    refine px_forget (n := 0) (lv' := [_, _, _, _, _, _, _, _, _, _, _]) rfl ?_
    refine px_forget (n := 1) (lv' := [_, _, _, _, _, _, _, _, _, _, _]) rfl ?_
    refine px_forget (n := 3) (lv' := [_, _, _, _, _, _, _, _, _, _, _]) rfl ?_
    exact (r_Memory_findNames_74 h :)
  · replace h := (if_pos ((lg_cmp_eq _ _).mp hc)).symm.trans h
    refine px_ld rfl rfl rfl rfl rfl ?_
    refine px_ic (k := 1) rfl rfl rfl ?_
    refine px_iclt rfl (by decide) rfl (fun hc => ?_) (fun hc => ?_)
    · replace h := (if_pos hc).symm.trans h
      refine px_forget (n := 0) (lv' := [_, _, _, _, _, _, _, _, _, _, _]) rfl ?_
      refine px_forget (n := 1) (lv' := [_, _, _, _, _, _, _, _, _, _, _]) rfl ?_
      refine px_forget (n := 3) (lv' := [_, _, _, _, _, _, _, _, _, _, _]) rfl ?_
      exact (r_Memory_findNames_74 h :)
    · replace h := (if_neg hc).symm.trans h
      refine px_ld rfl rfl rfl rfl rfl ?_
      refine px_ic (k := 24) rfl rfl rfl ?_
      refine px_icgt rfl (by decide) rfl (fun hc => ?_) (fun hc => ?_)
      · replace h := (if_pos hc).symm.trans h
        refine px_forget (n := 0) (lv' := [_, _, _, _, _, _, _, _, _, _, _]) rfl ?_
        refine px_forget (n := 1) (lv' := [_, _, _, _, _, _, _, _, _, _, _]) rfl ?_
        refine px_forget (n := 3) (lv' := [_, _, _, _, _, _, _, _, _, _, _]) rfl ?_
        exact (r_Memory_findNames_74 h :)
      · replace h := (if_neg hc).symm.trans h
        refine px_ld rfl rfl rfl rfl rfl ?_
        obtain ⟨t11, h0, h⟩ := xs_some h
        obtain ⟨fs, e1, e2⟩ := xgR_some h0
        refine px_get rfl e1 e2 rfl ?_
        refine px_ld rfl rfl rfl rfl rfl ?_
        refine px_ldc2 rfl rfl rfl ?_
        refine px_ld rfl rfl rfl rfl rfl ?_
        refine px_alu rfl rfl rfl ?_
        refine px_alu rfl rfl rfl ?_
        obtain ⟨fs, h0, h⟩ := xs_some h
        have e1 := xo_some h0
        obtain ⟨t12, ph13, h0, h⟩ := xb_some h
        refine px_cV2 rfl rfl e1 rfl rfl rfl rfl rfl rfl rfl (r_Row_holds h0 :) (fun _ _ q => nomatch q.2) (fun r ph' q => ?_)
        obtain ⟨rfl, q⟩ := q
        cases q
        refine px_ifne rfl (by decide) rfl (fun hc => ?_) (fun hc => ?_)
        · replace h := (if_neg hc).symm.trans h
          refine px_ld rfl rfl rfl rfl rfl ?_
          refine px_alu rfl rfl rfl ?_
          refine px_st (lv' := [_, _, _, _, _, _, _, _, _, _, _]) rfl rfl rfl rfl rfl rfl rfl ?_
          refine px_ld rfl rfl rfl rfl rfl ?_
          refine px_ic (k := 1) rfl rfl rfl ?_
          refine px_alu rfl rfl rfl ?_
          refine px_st (lv' := [_, _, _, _, _, _, _, _, _, _, _]) rfl rfl rfl rfl rfl rfl rfl ?_
          exact (r_Memory_findNames_84 _ h :)
        · replace h := (if_pos hc).symm.trans h
          refine px_forget (n := 0) (lv' := [_, _, _, _, _, _, _, _, _, _, _]) rfl ?_
          refine px_forget (n := 1) (lv' := [_, _, _, _, _, _, _, _, _, _, _]) rfl ?_
          refine px_forget (n := 3) (lv' := [_, _, _, _, _, _, _, _, _, _, _]) rfl ?_
          exact (r_Memory_findNames_74 h :)
def f_Memory_load_266 (F : Nat) (c : px_CT) (ph : px_H) : Option (Unit × px_H) :=
  some ((), ph)
theorem r_Memory_load_266 {l : Launch} {g : px_G} {d F : Nat} {ph : px_H} {r : Unit} {ph' : px_H} (h : f_Memory_load_266 F (px_ct g) ph = some (r, ph')) : PW l g (d + 3) m_Memory_load 266 [px_u, px_u, px_u, px_u, px_u, px_u] [] ph (px_qV r ph') := by
  unfold f_Memory_load_266 at h
  cases h
  exact px_vret rfl rfl rfl ⟨rfl, rfl⟩
def f_Memory_load_256 (F : Nat) (c : px_CT) (k228 : Nat → Int32 → px_H → Option (Unit × px_H)) (a0 : Nat) (a4 : Int32) (s0 : Nat) (s1 : Int32) (s2 : Int32) (ph : px_H) : Option (Unit × px_H) :=
  (xpI ph 4 12 s0 (s1 + s2)).bind fun ph1 =>
  k228 a0 (a4 + nI 1) ph1
theorem r_Memory_load_256 {l : Launch} {g : px_G} {d F : Nat} {k228 : Nat → Int32 → px_H → Option (Unit × px_H)} (hk228 : ∀ {a0 : Nat} {a4 : Int32} {ph : px_H} {r : Unit} {ph' : px_H}, k228 a0 a4 ph = some (r, ph') → PW l g (d + 3) m_Memory_load 228 [.ref a0, px_u, px_u, px_u, .int a4, px_u] [] ph (px_qV r ph')) {a0 : Nat} {a4 : Int32} {s0 : Nat} {s1 : Int32} {s2 : Int32} {ph : px_H} {r : Unit} {ph' : px_H} (h : f_Memory_load_256 F (px_ct g) k228 a0 a4 s0 s1 s2 ph = some (r, ph')) : PW l g (d + 3) m_Memory_load 256 [.ref a0, px_u, px_u, px_u, .int a4, px_u] [.int s2, .int s1, .ref s0] ph (px_qV r ph') := by
  unfold f_Memory_load_256 at h
  refine px_alu rfl rfl rfl ?_
  obtain ⟨ph1, h0, h⟩ := xs_some h
  obtain ⟨fs, e1, e2, e3⟩ := xpI_some h0
  subst e3
  refine px_put rfl e1 e2 trivial rfl ?_
  refine px_iinc (lv' := [_, _, _, _, _, _]) rfl rfl rfl rfl rfl rfl ?_
  refine px_goto rfl (by decide) rfl ?_
  exact (hk228 h :)
def f_Memory_load_228 (F : Nat) (c : px_CT) : Nat → Nat → Int32 → px_H → Option (Unit × px_H)
  | 0, _, _, _ => none
  | n + 1, a0, a4, ph =>
    (xgI ph 4 9 a0).bind fun t1 =>
    if t1 ≤ a4 then
      f_Memory_load_266 F c ph
    else
      (xgI ph 4 12 a0).bind fun t2 =>
      (xo ph 4 a0).bind fun _ =>
      xb (f_Memory_isName F c a0 a4 ph) fun t3 ph4 =>
      if t3 = 0 then
        f_Memory_load_256 F c (f_Memory_load_228 F c n) a0 a4 a0 t2 (nI 0) ph4
      else
        f_Memory_load_256 F c (f_Memory_load_228 F c n) a0 a4 a0 t2 (nI 1) ph4
theorem r_Memory_load_228 {l : Launch} {g : px_G} {d F : Nat} : ∀ (n : Nat) {a0 : Nat} {a4 : Int32} {ph : px_H} {r : Unit} {ph' : px_H}, f_Memory_load_228 F (px_ct g) n a0 a4 ph = some (r, ph') → PW l g (d + 3) m_Memory_load 228 [.ref a0, px_u, px_u, px_u, .int a4, px_u] [] ph (px_qV r ph') := by
  intro n
  induction n with
  | zero => intro _ _ _ _ _ h; cases h
  | succ n ih =>
    intro a0 a4 ph r ph' h
    unfold f_Memory_load_228 at h
    refine px_ld rfl rfl rfl rfl rfl ?_
    refine px_ld rfl rfl rfl rfl rfl ?_
    obtain ⟨t1, h0, h⟩ := xs_some h
    obtain ⟨fs, e1, e2⟩ := xgI_some h0
    refine px_get rfl e1 e2 rfl ?_
    refine px_icge rfl (by decide) rfl (fun hc => ?_) (fun hc => ?_)
    · replace h := (if_pos hc).symm.trans h
      refine px_forget (n := 0) (lv' := [_, _, _, _, _, _]) rfl ?_
      refine px_forget (n := 4) (lv' := [_, _, _, _, _, _]) rfl ?_
      exact (r_Memory_load_266 h :)
    · replace h := (if_neg hc).symm.trans h
      refine px_ld rfl rfl rfl rfl rfl ?_
      refine px_alu rfl rfl rfl ?_
      obtain ⟨t2, h0, h⟩ := xs_some h
      obtain ⟨fs, e1, e2⟩ := xgI_some h0
      refine px_get rfl e1 e2 rfl ?_
      refine px_ld rfl rfl rfl rfl rfl ?_
      refine px_ld rfl rfl rfl rfl rfl ?_
      obtain ⟨fs, h0, h⟩ := xs_some h
      have e1 := xo_some h0
      obtain ⟨t3, ph4, h0, h⟩ := xb_some h
      refine px_cV1 rfl rfl e1 rfl rfl rfl rfl rfl rfl rfl (r_Memory_isName h0 :) (fun _ _ q => nomatch q.2) (fun r ph' q => ?_)
      obtain ⟨rfl, q⟩ := q
      cases q
      refine px_ifeq rfl (by decide) rfl (fun hc => ?_) (fun hc => ?_)
      · replace h := (if_pos hc).symm.trans h
        refine px_ic (k := 0) rfl rfl rfl ?_
        exact (r_Memory_load_256 @ih h :)
      · replace h := (if_neg hc).symm.trans h
        refine px_ic (k := 1) rfl rfl rfl ?_
        refine px_goto rfl (by decide) rfl ?_
        exact (r_Memory_load_256 @ih h :)
def f_Memory_load_216 (F : Nat) (c : px_CT) (a0 : Nat) (ph : px_H) : Option (Unit × px_H) :=
  (xo ph 4 a0).bind fun _ =>
  xb (f_Memory_findNames F c a0 ph) fun _ ph1 =>
  (xpI ph1 4 12 a0 (nI 0)).bind fun ph2 =>
  f_Memory_load_228 F c F a0 (nI 1) ph2
theorem r_Memory_load_216 {l : Launch} {g : px_G} {d F : Nat} {a0 : Nat} {ph : px_H} {r : Unit} {ph' : px_H} (h : f_Memory_load_216 F (px_ct g) a0 ph = some (r, ph')) : PW l g (d + 3) m_Memory_load 216 [.ref a0, px_u, px_u, px_u, px_u, px_u] [] ph (px_qV r ph') := by
  unfold f_Memory_load_216 at h
  refine px_ld rfl rfl rfl rfl rfl ?_
  obtain ⟨fs, h0, h⟩ := xs_some h
  have e1 := xo_some h0
  obtain ⟨u0, ph1, h0, h⟩ := xb_some h
  refine px_cV0 rfl rfl e1 rfl rfl rfl rfl rfl rfl rfl (r_Memory_findNames h0 :) (fun _ _ q => nomatch q.2) (fun r ph' q => ?_)
  obtain ⟨rfl, q⟩ := q
  cases q
  refine px_ld rfl rfl rfl rfl rfl ?_
  refine px_ic (k := 0) rfl rfl rfl ?_
  obtain ⟨ph2, h0, h⟩ := xs_some h
  obtain ⟨fs, e1, e2, e3⟩ := xpI_some h0
  subst e3
  refine px_put rfl e1 e2 trivial rfl ?_
  refine px_ic (k := 1) rfl rfl rfl ?_
  refine px_st (lv' := [_, _, _, _, _, _]) rfl rfl rfl rfl rfl rfl rfl ?_
  exact (r_Memory_load_228 _ h :)
def f_Memory_load_210 (F : Nat) (c : px_CT) (k62 : Nat → Nat → Int32 → Int32 → Int32 → px_H → Option (Unit × px_H)) (a0 : Nat) (a1 : Nat) (a2 : Int32) (a3 : Int32) (a4 : Int32) (ph : px_H) : Option (Unit × px_H) :=
  k62 a0 a1 a2 a3 (a4 + nI 1) ph
theorem r_Memory_load_210 {l : Launch} {g : px_G} {d F : Nat} {k62 : Nat → Nat → Int32 → Int32 → Int32 → px_H → Option (Unit × px_H)} (hk62 : ∀ {a0 : Nat} {a1 : Nat} {a2 : Int32} {a3 : Int32} {a4 : Int32} {ph : px_H} {r : Unit} {ph' : px_H}, k62 a0 a1 a2 a3 a4 ph = some (r, ph') → PW l g (d + 3) m_Memory_load 62 [.ref a0, .ref a1, .int a2, .int a3, .int a4, px_u] [] ph (px_qV r ph')) {a0 : Nat} {a1 : Nat} {a2 : Int32} {a3 : Int32} {a4 : Int32} {ph : px_H} {r : Unit} {ph' : px_H} (h : f_Memory_load_210 F (px_ct g) k62 a0 a1 a2 a3 a4 ph = some (r, ph')) : PW l g (d + 3) m_Memory_load 210 [.ref a0, .ref a1, .int a2, .int a3, .int a4, px_u] [] ph (px_qV r ph') := by
  unfold f_Memory_load_210 at h
  refine px_iinc (lv' := [_, _, _, _, _, _]) rfl rfl rfl rfl rfl rfl ?_
  refine px_goto rfl (by decide) rfl ?_
  exact (hk62 h :)
def f_Memory_load_62 (F : Nat) (c : px_CT) : Nat → Nat → Nat → Int32 → Int32 → Int32 → px_H → Option (Unit × px_H)
  | 0, _, _, _, _, _, _ => none
  | n + 1, a0, a1, a2, a3, a4, ph =>
    if a3 ≤ a4 then
      f_Memory_load_216 F c a0 ph
    else
      (xgI ph 4 6 a0).bind fun t1 =>
      (xgR ph 4 1 a0).bind fun t2 =>
      (xal ph 2 t2).bind fun t3 =>
      if t3 ≤ t1 then
        f_Memory_load_216 F c a0 ph
      else
        (xo ph 10 a1).bind fun _ =>
        xb (f_Row_num F c a1 (a2 + ((nI 56) * a4)) (nI 4) ph) fun t4 ph5 =>
        if t4 = (lN 1) then
          (xgR ph5 4 5 a0).bind fun t6 =>
          (xgI ph5 4 6 a0).bind fun t7 =>
          (xo ph5 10 a1).bind fun _ =>
          xb (f_Row_num F c a1 ((a2 + ((nI 56) * a4)) + (nI 4)) (nI 4) ph5) fun t8 ph9 =>
          (xsJ ph9 2 t6 t7 t8).bind fun ph10 =>
          (xgR ph10 4 4 a0).bind fun t11 =>
          (xgI ph10 4 6 a0).bind fun t12 =>
          (xo ph10 10 a1).bind fun _ =>
          xb (f_Row_num F c a1 ((a2 + ((nI 56) * a4)) + (nI 8)) (nI 8) ph10) fun t13 ph14 =>
          (xsI ph14 1 t11 t12 t13.toInt32).bind fun ph15 =>
          (xgR ph15 4 1 a0).bind fun t16 =>
          (xgI ph15 4 6 a0).bind fun t17 =>
          (xo ph15 10 a1).bind fun _ =>
          xb (f_Row_num F c a1 ((a2 + ((nI 56) * a4)) + (nI 16)) (nI 8) ph15) fun t18 ph19 =>
          (xsJ ph19 2 t16 t17 t18).bind fun ph20 =>
          (xgR ph20 4 3 a0).bind fun t21 =>
          (xgI ph20 4 6 a0).bind fun t22 =>
          (xo ph20 10 a1).bind fun _ =>
          xb (f_Row_num F c a1 ((a2 + ((nI 56) * a4)) + (nI 32)) (nI 8) ph20) fun t23 ph24 =>
          (xsJ ph24 2 t21 t22 t23).bind fun ph25 =>
          (xgR ph25 4 2 a0).bind fun t26 =>
          (xgI ph25 4 6 a0).bind fun t27 =>
          (xo ph25 10 a1).bind fun _ =>
          xb (f_Row_num F c a1 ((a2 + ((nI 56) * a4)) + (nI 40)) (nI 8) ph25) fun t28 ph29 =>
          (xsJ ph29 2 t26 t27 t28).bind fun ph30 =>
          (xgI ph30 4 6 a0).bind fun t31 =>
          (xpI ph30 4 6 a0 (t31 + (nI 1))).bind fun ph32 =>
          f_Memory_load_210 F c (f_Memory_load_62 F c n) a0 a1 a2 a3 a4 ph32
        else
          f_Memory_load_210 F c (f_Memory_load_62 F c n) a0 a1 a2 a3 a4 ph5
theorem r_Memory_load_62 {l : Launch} {g : px_G} {d F : Nat} : ∀ (n : Nat) {a0 : Nat} {a1 : Nat} {a2 : Int32} {a3 : Int32} {a4 : Int32} {ph : px_H} {r : Unit} {ph' : px_H}, f_Memory_load_62 F (px_ct g) n a0 a1 a2 a3 a4 ph = some (r, ph') → PW l g (d + 3) m_Memory_load 62 [.ref a0, .ref a1, .int a2, .int a3, .int a4, px_u] [] ph (px_qV r ph') := by
  intro n
  induction n with
  | zero => intro _ _ _ _ _ _ _ _ h; cases h
  | succ n ih =>
    intro a0 a1 a2 a3 a4 ph r ph' h
    unfold f_Memory_load_62 at h
    refine px_ld rfl rfl rfl rfl rfl ?_
    refine px_ld rfl rfl rfl rfl rfl ?_
    refine px_icge rfl (by decide) rfl (fun hc => ?_) (fun hc => ?_)
    · replace h := (if_pos hc).symm.trans h
      refine px_forget (n := 1) (lv' := [_, _, _, _, _, _]) rfl ?_
      refine px_forget (n := 2) (lv' := [_, _, _, _, _, _]) rfl ?_
      refine px_forget (n := 3) (lv' := [_, _, _, _, _, _]) rfl ?_
      refine px_forget (n := 4) (lv' := [_, _, _, _, _, _]) rfl ?_
      exact (r_Memory_load_216 h :)
    · replace h := (if_neg hc).symm.trans h
      refine px_ld rfl rfl rfl rfl rfl ?_
      obtain ⟨t1, h0, h⟩ := xs_some h
      obtain ⟨fs, e1, e2⟩ := xgI_some h0
      refine px_get rfl e1 e2 rfl ?_
      refine px_ld rfl rfl rfl rfl rfl ?_
      obtain ⟨t2, h0, h⟩ := xs_some h
      obtain ⟨fs, e1, e2⟩ := xgR_some h0
      refine px_get rfl e1 e2 rfl ?_
      obtain ⟨t3, h0, h⟩ := xs_some h
      obtain ⟨x, e1, e3⟩ := xal_some h0
      subst e3
      refine px_alen rfl e1 rfl rfl ?_
      refine px_icge rfl (by decide) rfl (fun hc => ?_) (fun hc => ?_)
      · replace h := (if_pos hc).symm.trans h
        refine px_forget (n := 1) (lv' := [_, _, _, _, _, _]) rfl ?_
        refine px_forget (n := 2) (lv' := [_, _, _, _, _, _]) rfl ?_
        refine px_forget (n := 3) (lv' := [_, _, _, _, _, _]) rfl ?_
        refine px_forget (n := 4) (lv' := [_, _, _, _, _, _]) rfl ?_
        exact (r_Memory_load_216 h :)
      · replace h := (if_neg hc).symm.trans h
        refine px_ld rfl rfl rfl rfl rfl ?_
        refine px_ic (k := 56) rfl rfl rfl ?_
        refine px_ld rfl rfl rfl rfl rfl ?_
        refine px_alu rfl rfl rfl ?_
        refine px_alu rfl rfl rfl ?_
        refine px_st (lv' := [_, _, _, _, _, _]) rfl rfl rfl rfl rfl rfl rfl ?_
        refine px_ld rfl rfl rfl rfl rfl ?_
        refine px_ld rfl rfl rfl rfl rfl ?_
        refine px_ic (k := 4) rfl rfl rfl ?_
        obtain ⟨fs, h0, h⟩ := xs_some h
        have e1 := xo_some h0
        obtain ⟨t4, ph5, h0, h⟩ := xb_some h
        refine px_cV2 rfl rfl e1 rfl rfl rfl rfl rfl rfl rfl (r_Row_num h0 :) (fun _ _ q => nomatch q.2) (fun r ph' q => ?_)
        obtain ⟨rfl, q⟩ := q
        cases q
        refine px_alu rfl rfl rfl ?_
        refine px_alu rfl rfl rfl ?_
        refine px_ifne rfl (by decide) rfl (fun hc => ?_) (fun hc => ?_)
        · replace h := (if_neg (fun q => hc ((lg_cmp_eq _ _).mpr q))).symm.trans h
          refine px_forget (n := 5) (lv' := [_, _, _, _, _, _]) rfl ?_
          exact (r_Memory_load_210 @ih h :)
        · replace h := (if_pos ((lg_cmp_eq _ _).mp hc)).symm.trans h
          refine px_ld rfl rfl rfl rfl rfl ?_
          obtain ⟨t6, h0, h⟩ := xs_some h
          obtain ⟨fs, e1, e2⟩ := xgR_some h0
          refine px_get rfl e1 e2 rfl ?_
          refine px_ld rfl rfl rfl rfl rfl ?_
          obtain ⟨t7, h0, h⟩ := xs_some h
          obtain ⟨fs, e1, e2⟩ := xgI_some h0
          refine px_get rfl e1 e2 rfl ?_
          refine px_ld rfl rfl rfl rfl rfl ?_
          refine px_ld rfl rfl rfl rfl rfl ?_
          refine px_ic (k := 4) rfl rfl rfl ?_
          refine px_alu rfl rfl rfl ?_
          refine px_ic (k := 4) rfl rfl rfl ?_
          obtain ⟨fs, h0, h⟩ := xs_some h
          have e1 := xo_some h0
          obtain ⟨t8, ph9, h0, h⟩ := xb_some h
          refine px_cV2 rfl rfl e1 rfl rfl rfl rfl rfl rfl rfl (r_Row_num h0 :) (fun _ _ q => nomatch q.2) (fun r ph' q => ?_)
          obtain ⟨rfl, q⟩ := q
          cases q
          obtain ⟨ph10, h0, h⟩ := xs_some h
          obtain ⟨N, f, e1, e2, e3⟩ := xsJ_some h0
          subst e3
          refine px_last rfl e1 rfl e2 rfl ?_
          refine px_ld rfl rfl rfl rfl rfl ?_
          obtain ⟨t11, h0, h⟩ := xs_some h
          obtain ⟨fs, e1, e2⟩ := xgR_some h0
          refine px_get rfl e1 e2 rfl ?_
          refine px_ld rfl rfl rfl rfl rfl ?_
          obtain ⟨t12, h0, h⟩ := xs_some h
          obtain ⟨fs, e1, e2⟩ := xgI_some h0
          refine px_get rfl e1 e2 rfl ?_
          refine px_ld rfl rfl rfl rfl rfl ?_
          refine px_ld rfl rfl rfl rfl rfl ?_
          refine px_ic (k := 8) rfl rfl rfl ?_
          refine px_alu rfl rfl rfl ?_
          refine px_ic (k := 8) rfl rfl rfl ?_
          obtain ⟨fs, h0, h⟩ := xs_some h
          have e1 := xo_some h0
          obtain ⟨t13, ph14, h0, h⟩ := xb_some h
          refine px_cV2 rfl rfl e1 rfl rfl rfl rfl rfl rfl rfl (r_Row_num h0 :) (fun _ _ q => nomatch q.2) (fun r ph' q => ?_)
          obtain ⟨rfl, q⟩ := q
          cases q
          refine px_alu rfl rfl rfl ?_
          obtain ⟨ph15, h0, h⟩ := xs_some h
          obtain ⟨N, f, e1, e2, e3⟩ := xsI_some h0
          subst e3
          refine px_iast rfl e1 rfl e2 rfl ?_
          refine px_ld rfl rfl rfl rfl rfl ?_
          obtain ⟨t16, h0, h⟩ := xs_some h
          obtain ⟨fs, e1, e2⟩ := xgR_some h0
          refine px_get rfl e1 e2 rfl ?_
          refine px_ld rfl rfl rfl rfl rfl ?_
          obtain ⟨t17, h0, h⟩ := xs_some h
          obtain ⟨fs, e1, e2⟩ := xgI_some h0
          refine px_get rfl e1 e2 rfl ?_
          refine px_ld rfl rfl rfl rfl rfl ?_
          refine px_ld rfl rfl rfl rfl rfl ?_
          refine px_ic (k := 16) rfl rfl rfl ?_
          refine px_alu rfl rfl rfl ?_
          refine px_ic (k := 8) rfl rfl rfl ?_
          obtain ⟨fs, h0, h⟩ := xs_some h
          have e1 := xo_some h0
          obtain ⟨t18, ph19, h0, h⟩ := xb_some h
          refine px_cV2 rfl rfl e1 rfl rfl rfl rfl rfl rfl rfl (r_Row_num h0 :) (fun _ _ q => nomatch q.2) (fun r ph' q => ?_)
          obtain ⟨rfl, q⟩ := q
          cases q
          obtain ⟨ph20, h0, h⟩ := xs_some h
          obtain ⟨N, f, e1, e2, e3⟩ := xsJ_some h0
          subst e3
          refine px_last rfl e1 rfl e2 rfl ?_
          refine px_ld rfl rfl rfl rfl rfl ?_
          obtain ⟨t21, h0, h⟩ := xs_some h
          obtain ⟨fs, e1, e2⟩ := xgR_some h0
          refine px_get rfl e1 e2 rfl ?_
          refine px_ld rfl rfl rfl rfl rfl ?_
          obtain ⟨t22, h0, h⟩ := xs_some h
          obtain ⟨fs, e1, e2⟩ := xgI_some h0
          refine px_get rfl e1 e2 rfl ?_
          refine px_ld rfl rfl rfl rfl rfl ?_
          refine px_ld rfl rfl rfl rfl rfl ?_
          refine px_ic (k := 32) rfl rfl rfl ?_
          refine px_alu rfl rfl rfl ?_
          refine px_ic (k := 8) rfl rfl rfl ?_
          obtain ⟨fs, h0, h⟩ := xs_some h
          have e1 := xo_some h0
          obtain ⟨t23, ph24, h0, h⟩ := xb_some h
          refine px_cV2 rfl rfl e1 rfl rfl rfl rfl rfl rfl rfl (r_Row_num h0 :) (fun _ _ q => nomatch q.2) (fun r ph' q => ?_)
          obtain ⟨rfl, q⟩ := q
          cases q
          obtain ⟨ph25, h0, h⟩ := xs_some h
          obtain ⟨N, f, e1, e2, e3⟩ := xsJ_some h0
          subst e3
          refine px_last rfl e1 rfl e2 rfl ?_
          refine px_ld rfl rfl rfl rfl rfl ?_
          obtain ⟨t26, h0, h⟩ := xs_some h
          obtain ⟨fs, e1, e2⟩ := xgR_some h0
          refine px_get rfl e1 e2 rfl ?_
          refine px_ld rfl rfl rfl rfl rfl ?_
          obtain ⟨t27, h0, h⟩ := xs_some h
          obtain ⟨fs, e1, e2⟩ := xgI_some h0
          refine px_get rfl e1 e2 rfl ?_
          refine px_ld rfl rfl rfl rfl rfl ?_
          refine px_ld rfl rfl rfl rfl rfl ?_
          refine px_ic (k := 40) rfl rfl rfl ?_
          refine px_alu rfl rfl rfl ?_
          refine px_ic (k := 8) rfl rfl rfl ?_
          obtain ⟨fs, h0, h⟩ := xs_some h
          have e1 := xo_some h0
          obtain ⟨t28, ph29, h0, h⟩ := xb_some h
          refine px_cV2 rfl rfl e1 rfl rfl rfl rfl rfl rfl rfl (r_Row_num h0 :) (fun _ _ q => nomatch q.2) (fun r ph' q => ?_)
          obtain ⟨rfl, q⟩ := q
          cases q
          obtain ⟨ph30, h0, h⟩ := xs_some h
          obtain ⟨N, f, e1, e2, e3⟩ := xsJ_some h0
          subst e3
          refine px_last rfl e1 rfl e2 rfl ?_
          refine px_ld rfl rfl rfl rfl rfl ?_
          refine px_alu rfl rfl rfl ?_
          obtain ⟨t31, h0, h⟩ := xs_some h
          obtain ⟨fs, e1, e2⟩ := xgI_some h0
          refine px_get rfl e1 e2 rfl ?_
          refine px_ic (k := 1) rfl rfl rfl ?_
          refine px_alu rfl rfl rfl ?_
          obtain ⟨ph32, h0, h⟩ := xs_some h
          obtain ⟨fs, e1, e2, e3⟩ := xpI_some h0
          subst e3
          refine px_put rfl e1 e2 trivial rfl ?_
          refine px_forget (n := 5) (lv' := [_, _, _, _, _, _]) rfl ?_
          exact (r_Memory_load_210 @ih h :)
def f_Memory_load (F : Nat) (c : px_CT) (a0 : Nat) (a1 : Nat) (ph : px_H) : Option (Unit × px_H) :=
  (xgR ph 4 0 a0).bind fun t1 =>
  (xo ph 10 t1).bind fun _ =>
  xb (f_Row_clear F c t1 ph) fun _ ph2 =>
  (xgR ph2 4 0 a0).bind fun t3 =>
  (xgR ph2 10 0 a1).bind fun t4 =>
  (xgI ph2 10 1 a1).bind fun t5 =>
  (xo ph2 10 t3).bind fun _ =>
  xb (f_Row_copy F c t3 t4 (nI 0) t5 ph2) fun _ ph6 =>
  (xo ph6 10 a1).bind fun _ =>
  xb (f_Row_num F c a1 (nI 24) (nI 8) ph6) fun t7 ph8 =>
  (xpJ ph8 4 7 a0 t7).bind fun ph9 =>
  (xo ph9 10 a1).bind fun _ =>
  xb (f_Row_num F c a1 (nI 32) (nI 8) ph9) fun t10 ph11 =>
  (xo ph11 10 a1).bind fun _ =>
  xb (f_Row_num F c a1 (nI 56) (nI 2) ph11) fun t12 ph13 =>
  (xpI ph13 4 6 a0 (nI 0)).bind fun ph14 =>
  f_Memory_load_62 F c F a0 a1 t10.toInt32 t12.toInt32 (nI 0) ph14
theorem r_Memory_load {l : Launch} {g : px_G} {d F : Nat} {a0 : Nat} {a1 : Nat} {ph : px_H} {r : Unit} {ph' : px_H} (h : f_Memory_load F (px_ct g) a0 a1 ph = some (r, ph')) : PW l g (d + 3) m_Memory_load 0 [.ref a0, .ref a1, px_u, px_u, px_u, px_u] [] ph (px_qV r ph') := by
  unfold f_Memory_load at h
  refine px_ld rfl rfl rfl rfl rfl ?_
  obtain ⟨t1, h0, h⟩ := xs_some h
  obtain ⟨fs, e1, e2⟩ := xgR_some h0
  refine px_get rfl e1 e2 rfl ?_
  obtain ⟨fs, h0, h⟩ := xs_some h
  have e1 := xo_some h0
  obtain ⟨u0, ph2, h0, h⟩ := xb_some h
  refine px_cV0 rfl rfl e1 rfl rfl rfl rfl rfl rfl rfl (r_Row_clear h0 :) (fun _ _ q => nomatch q.2) (fun r ph' q => ?_)
  obtain ⟨rfl, q⟩ := q
  cases q
  refine px_ld rfl rfl rfl rfl rfl ?_
  obtain ⟨t3, h0, h⟩ := xs_some h
  obtain ⟨fs, e1, e2⟩ := xgR_some h0
  refine px_get rfl e1 e2 rfl ?_
  refine px_ld rfl rfl rfl rfl rfl ?_
  obtain ⟨t4, h0, h⟩ := xs_some h
  obtain ⟨fs, e1, e2⟩ := xgR_some h0
  refine px_get rfl e1 e2 rfl ?_
  refine px_ic (k := 0) rfl rfl rfl ?_
  refine px_ld rfl rfl rfl rfl rfl ?_
  obtain ⟨t5, h0, h⟩ := xs_some h
  obtain ⟨fs, e1, e2⟩ := xgI_some h0
  refine px_get rfl e1 e2 rfl ?_
  obtain ⟨fs, h0, h⟩ := xs_some h
  have e1 := xo_some h0
  obtain ⟨u0, ph6, h0, h⟩ := xb_some h
  refine px_cV3 rfl rfl e1 rfl rfl rfl rfl rfl rfl rfl (r_Row_copy h0 :) (fun _ _ q => nomatch q.2) (fun r ph' q => ?_)
  obtain ⟨rfl, q⟩ := q
  cases q
  refine px_ld rfl rfl rfl rfl rfl ?_
  refine px_ld rfl rfl rfl rfl rfl ?_
  refine px_ic (k := 24) rfl rfl rfl ?_
  refine px_ic (k := 8) rfl rfl rfl ?_
  obtain ⟨fs, h0, h⟩ := xs_some h
  have e1 := xo_some h0
  obtain ⟨t7, ph8, h0, h⟩ := xb_some h
  refine px_cV2 rfl rfl e1 rfl rfl rfl rfl rfl rfl rfl (r_Row_num h0 :) (fun _ _ q => nomatch q.2) (fun r ph' q => ?_)
  obtain ⟨rfl, q⟩ := q
  cases q
  obtain ⟨ph9, h0, h⟩ := xs_some h
  obtain ⟨fs, e1, e2, e3⟩ := xpJ_some h0
  subst e3
  refine px_put rfl e1 e2 trivial rfl ?_
  refine px_ld rfl rfl rfl rfl rfl ?_
  refine px_ic (k := 32) rfl rfl rfl ?_
  refine px_ic (k := 8) rfl rfl rfl ?_
  obtain ⟨fs, h0, h⟩ := xs_some h
  have e1 := xo_some h0
  obtain ⟨t10, ph11, h0, h⟩ := xb_some h
  refine px_cV2 rfl rfl e1 rfl rfl rfl rfl rfl rfl rfl (r_Row_num h0 :) (fun _ _ q => nomatch q.2) (fun r ph' q => ?_)
  obtain ⟨rfl, q⟩ := q
  cases q
  refine px_alu rfl rfl rfl ?_
  refine px_st (lv' := [_, _, _, _, _, _]) rfl rfl rfl rfl rfl rfl rfl ?_
  refine px_ld rfl rfl rfl rfl rfl ?_
  refine px_ic (k := 56) rfl rfl rfl ?_
  refine px_ic (k := 2) rfl rfl rfl ?_
  obtain ⟨fs, h0, h⟩ := xs_some h
  have e1 := xo_some h0
  obtain ⟨t12, ph13, h0, h⟩ := xb_some h
  refine px_cV2 rfl rfl e1 rfl rfl rfl rfl rfl rfl rfl (r_Row_num h0 :) (fun _ _ q => nomatch q.2) (fun r ph' q => ?_)
  obtain ⟨rfl, q⟩ := q
  cases q
  refine px_alu rfl rfl rfl ?_
  refine px_st (lv' := [_, _, _, _, _, _]) rfl rfl rfl rfl rfl rfl rfl ?_
  refine px_ld rfl rfl rfl rfl rfl ?_
  refine px_ic (k := 0) rfl rfl rfl ?_
  obtain ⟨ph14, h0, h⟩ := xs_some h
  obtain ⟨fs, e1, e2, e3⟩ := xpI_some h0
  subst e3
  refine px_put rfl e1 e2 trivial rfl ?_
  refine px_ic (k := 0) rfl rfl rfl ?_
  refine px_st (lv' := [_, _, _, _, _, _]) rfl rfl rfl rfl rfl rfl rfl ?_
  exact (r_Memory_load_62 _ h :)
def f_H_boot_54 (F : Nat) (c : px_CT) (a0 : Nat) (ph : px_H) : Option (Int32 × px_H) :=
  (xgI ph 0 17 a0).bind fun t1 =>
  some (t1, ph)
theorem r_H_boot_54 {l : Launch} {g : px_G} {d F : Nat} {a0 : Nat} {ph : px_H} {r : Int32} {ph' : px_H} (h : f_H_boot_54 F (px_ct g) a0 ph = some (r, ph')) : PW l g (d + 4) m_H_boot 54 [.ref a0, px_u, px_u] [] ph (px_qI r ph') := by
  unfold f_H_boot_54 at h
  refine px_ld rfl rfl rfl rfl rfl ?_
  obtain ⟨t1, h0, h⟩ := xs_some h
  obtain ⟨fs, e1, e2⟩ := xgI_some h0
  refine px_get rfl e1 e2 rfl ?_
  cases h
  exact px_iret rfl (Or.inl rfl) rfl ⟨rfl, rfl⟩
def f_H_boot_43 (F : Nat) (c : px_CT) (a0 : Nat) (a1 : Int32) (ph : px_H) : Option (Int32 × px_H) :=
  if a1 = 0 then
    f_H_boot_54 F c a0 ph
  else
    (xgR ph 0 0 a0).bind fun t1 =>
    (xo ph 10 t1).bind fun _ =>
    xb (f_Row_clear F c t1 ph) fun _ ph2 =>
    f_H_boot_54 F c a0 ph2
theorem r_H_boot_43 {l : Launch} {g : px_G} {d F : Nat} {a0 : Nat} {a1 : Int32} {ph : px_H} {r : Int32} {ph' : px_H} (h : f_H_boot_43 F (px_ct g) a0 a1 ph = some (r, ph')) : PW l g (d + 4) m_H_boot 43 [.ref a0, .int a1, px_u] [] ph (px_qI r ph') := by
  unfold f_H_boot_43 at h
  refine px_ld rfl rfl rfl rfl rfl ?_
  refine px_ifeq rfl rfl rfl (fun hc => ?_) (fun hc => ?_)
  · replace h := (if_pos hc).symm.trans h
    refine px_forget (n := 1) (lv' := [_, _, _]) rfl ?_
    exact (r_H_boot_54 h :)
  · replace h := (if_neg hc).symm.trans h
    refine px_ld rfl rfl rfl rfl rfl ?_
    obtain ⟨t1, h0, h⟩ := xs_some h
    obtain ⟨fs, e1, e2⟩ := xgR_some h0
    refine px_get rfl e1 e2 rfl ?_
    obtain ⟨fs, h0, h⟩ := xs_some h
    have e1 := xo_some h0
    obtain ⟨u0, ph2, h0, h⟩ := xb_some h
    refine px_cV0 rfl rfl e1 rfl rfl rfl rfl rfl rfl rfl (r_Row_clear h0 :) (fun _ _ q => nomatch q.2) (fun r ph' q => ?_)
    obtain ⟨rfl, q⟩ := q
    cases q
    refine px_forget (n := 1) (lv' := [_, _, _]) rfl ?_
    exact (r_H_boot_54 h :)
def f_H_boot_15 (F : Nat) (c : px_CT) (a0 : Nat) (a1 : Int32) (s0 : Nat) (ph : px_H) : Option (Int32 × px_H) :=
  (xgR ph 0 16 a0).bind fun t1 =>
  (xo ph 4 t1).bind fun _ =>
  xb (f_Memory_errorOf F c t1 s0 ph) fun t2 ph3 =>
  (xpI ph3 0 17 a0 t2).bind fun ph4 =>
  (xgI ph4 0 17 a0).bind fun t5 =>
  if t5 = 0 then
    (xgR ph4 0 16 a0).bind fun t6 =>
    (xo ph4 4 t6).bind fun _ =>
    xb (f_Memory_load F c t6 s0 ph4) fun _ ph7 =>
    f_H_boot_43 F c a0 a1 ph7
  else
    f_H_boot_43 F c a0 a1 ph4
theorem r_H_boot_15 {l : Launch} {g : px_G} {d F : Nat} {a0 : Nat} {a1 : Int32} {s0 : Nat} {ph : px_H} {r : Int32} {ph' : px_H} (h : f_H_boot_15 F (px_ct g) a0 a1 s0 ph = some (r, ph')) : PW l g (d + 4) m_H_boot 15 [.ref a0, .int a1, px_u] [.ref s0] ph (px_qI r ph') := by
  unfold f_H_boot_15 at h
  refine px_st (lv' := [_, _, _]) rfl rfl rfl rfl rfl rfl rfl ?_
  refine px_ld rfl rfl rfl rfl rfl ?_
  refine px_ld rfl rfl rfl rfl rfl ?_
  obtain ⟨t1, h0, h⟩ := xs_some h
  obtain ⟨fs, e1, e2⟩ := xgR_some h0
  refine px_get rfl e1 e2 rfl ?_
  refine px_ld rfl rfl rfl rfl rfl ?_
  obtain ⟨fs, h0, h⟩ := xs_some h
  have e1 := xo_some h0
  obtain ⟨t2, ph3, h0, h⟩ := xb_some h
  refine px_cV1 rfl rfl e1 rfl rfl rfl rfl rfl rfl rfl (r_Memory_errorOf h0 :) (fun _ _ q => nomatch q.2) (fun r ph' q => ?_)
  obtain ⟨rfl, q⟩ := q
  cases q
  obtain ⟨ph4, h0, h⟩ := xs_some h
  obtain ⟨fs, e1, e2, e3⟩ := xpI_some h0
  subst e3
  refine px_put rfl e1 e2 trivial rfl ?_
  refine px_ld rfl rfl rfl rfl rfl ?_
  obtain ⟨t5, h0, h⟩ := xs_some h
  obtain ⟨fs, e1, e2⟩ := xgI_some h0
  refine px_get rfl e1 e2 rfl ?_
  refine px_ifne rfl rfl rfl (fun hc => ?_) (fun hc => ?_)
  · replace h := (if_neg hc).symm.trans h
    refine px_forget (n := 2) (lv' := [_, _, _]) rfl ?_
    exact (r_H_boot_43 h :)
  · replace h := (if_pos hc).symm.trans h
    refine px_ld rfl rfl rfl rfl rfl ?_
    obtain ⟨t6, h0, h⟩ := xs_some h
    obtain ⟨fs, e1, e2⟩ := xgR_some h0
    refine px_get rfl e1 e2 rfl ?_
    refine px_ld rfl rfl rfl rfl rfl ?_
    obtain ⟨fs, h0, h⟩ := xs_some h
    have e1 := xo_some h0
    obtain ⟨u0, ph7, h0, h⟩ := xb_some h
    refine px_cV1 rfl rfl e1 rfl rfl rfl rfl rfl rfl rfl (r_Memory_load h0 :) (fun _ _ q => nomatch q.2) (fun r ph' q => ?_)
    obtain ⟨rfl, q⟩ := q
    cases q
    refine px_forget (n := 2) (lv' := [_, _, _]) rfl ?_
    exact (r_H_boot_43 h :)
def f_H_boot (F : Nat) (c : px_CT) (a0 : Nat) (a1 : Int32) (ph : px_H) : Option (Int32 × px_H) :=
  if a1 = 0 then
    (xgR ph 0 1 a0).bind fun t1 =>
    f_H_boot_15 F c a0 a1 t1 ph
  else
    (xgR ph 0 0 a0).bind fun t2 =>
    f_H_boot_15 F c a0 a1 t2 ph
theorem r_H_boot {l : Launch} {g : px_G} {d F : Nat} {a0 : Nat} {a1 : Int32} {ph : px_H} {r : Int32} {ph' : px_H} (h : f_H_boot F (px_ct g) a0 a1 ph = some (r, ph')) : PW l g (d + 4) m_H_boot 0 [.ref a0, .int a1, px_u] [] ph (px_qI r ph') := by
  unfold f_H_boot at h
  refine px_ld rfl rfl rfl rfl rfl ?_
  refine px_ifeq rfl rfl rfl (fun hc => ?_) (fun hc => ?_)
  · replace h := (if_pos hc).symm.trans h
    refine px_ld rfl rfl rfl rfl rfl ?_
    obtain ⟨t1, h0, h⟩ := xs_some h
    obtain ⟨fs, e1, e2⟩ := xgR_some h0
    refine px_get rfl e1 e2 rfl ?_
    exact (r_H_boot_15 h :)
  · replace h := (if_neg hc).symm.trans h
    refine px_ld rfl rfl rfl rfl rfl ?_
    obtain ⟨t2, h0, h⟩ := xs_some h
    obtain ⟨fs, e1, e2⟩ := xgR_some h0
    refine px_get rfl e1 e2 rfl ?_
    refine px_goto rfl rfl rfl ?_
    exact (r_H_boot_15 h :)
def f_Memory_byteAt_55 (F : Nat) (c : px_CT) (s0 : Int32) (ph : px_H) : Option (Int32 × px_H) :=
  some (s0, ph)
theorem r_Memory_byteAt_55 {l : Launch} {g : px_G} {d F : Nat} {s0 : Int32} {ph : px_H} {r : Int32} {ph' : px_H} (h : f_Memory_byteAt_55 F (px_ct g) s0 ph = some (r, ph')) : PW l g (d + 2) m_Memory_byteAt 55 [px_u, px_u, px_u, px_u, px_u, px_u] [.int s0] ph (px_qI r ph') := by
  unfold f_Memory_byteAt_55 at h
  cases h
  exact px_iret rfl (Or.inl rfl) rfl ⟨rfl, rfl⟩
def f_Memory_byteAt (F : Nat) (c : px_CT) (a0 : Nat) (a1 : Int64) (ph : px_H) : Option (Int32 × px_H) :=
  (xo ph 4 a0).bind fun _ =>
  xb (f_Memory_rowAt F c a0 a1 ph) fun t1 ph2 =>
  if 0 ≤ t1 then
    (xgR ph2 4 1 a0).bind fun t3 =>
    (xaJ ph2 2 t3 t1).bind fun t4 =>
    (xgR ph2 4 3 a0).bind fun t5 =>
    (xaJ ph2 2 t5 t1).bind fun t6 =>
    if t6 ≤ (a1 - t4) then
      f_Memory_byteAt_55 F c (nI 0) ph2
    else
      (xgR ph2 4 0 a0).bind fun t7 =>
      (xgR ph2 4 4 a0).bind fun t8 =>
      (xaI ph2 1 t8 t1).bind fun t9 =>
      (xo ph2 10 t7).bind fun _ =>
      xb (f_Row_at F c t7 (t9 + ((a1 - t4).toInt32)) ph2) fun t10 ph11 =>
      f_Memory_byteAt_55 F c t10 ph11
  else
    some (Int32.ofInt (-1), ph2)
theorem r_Memory_byteAt {l : Launch} {g : px_G} {d F : Nat} {a0 : Nat} {a1 : Int64} {ph : px_H} {r : Int32} {ph' : px_H} (h : f_Memory_byteAt F (px_ct g) a0 a1 ph = some (r, ph')) : PW l g (d + 2) m_Memory_byteAt 0 [.ref a0, .long a1, px_u, px_u, px_u, px_u] [] ph (px_qI r ph') := by
  unfold f_Memory_byteAt at h
  refine px_ld rfl rfl rfl rfl rfl ?_
  refine px_ld rfl rfl rfl rfl rfl ?_
  obtain ⟨fs, h0, h⟩ := xs_some h
  have e1 := xo_some h0
  obtain ⟨t1, ph2, h0, h⟩ := xb_some h
  refine px_cV1 rfl rfl e1 rfl rfl rfl rfl rfl rfl rfl (r_Memory_rowAt h0 :) (fun _ _ q => nomatch q.2) (fun r ph' q => ?_)
  obtain ⟨rfl, q⟩ := q
  cases q
  refine px_st (lv' := [_, _, _, _, _, _]) rfl rfl rfl rfl rfl rfl rfl ?_
  refine px_ld rfl rfl rfl rfl rfl ?_
  refine px_ifge rfl rfl rfl (fun hc => ?_) (fun hc => ?_)
  · replace h := (if_pos hc).symm.trans h
    refine px_ld rfl rfl rfl rfl rfl ?_
    refine px_ld rfl rfl rfl rfl rfl ?_
    obtain ⟨t3, h0, h⟩ := xs_some h
    obtain ⟨fs, e1, e2⟩ := xgR_some h0
    refine px_get rfl e1 e2 rfl ?_
    refine px_ld rfl rfl rfl rfl rfl ?_
    obtain ⟨t4, h0, h⟩ := xs_some h
    obtain ⟨N, f, e1, e2, e3⟩ := xaJ_some h0
    subst e3
    refine px_lald rfl e1 rfl e2 rfl ?_
    refine px_alu rfl rfl rfl ?_
    refine px_st (lv' := [_, _, _, _, _, _]) rfl rfl rfl rfl rfl rfl rfl ?_
    refine px_ld rfl rfl rfl rfl rfl ?_
    refine px_ld rfl rfl rfl rfl rfl ?_
    obtain ⟨t5, h0, h⟩ := xs_some h
    obtain ⟨fs, e1, e2⟩ := xgR_some h0
    refine px_get rfl e1 e2 rfl ?_
    refine px_ld rfl rfl rfl rfl rfl ?_
    obtain ⟨t6, h0, h⟩ := xs_some h
    obtain ⟨N, f, e1, e2, e3⟩ := xaJ_some h0
    subst e3
    refine px_lald rfl e1 rfl e2 rfl ?_
    refine px_alu rfl rfl rfl ?_
    refine px_ifge rfl rfl rfl (fun hc => ?_) (fun hc => ?_)
    · replace h := (if_pos ((lg_cmp_ge _ _).mp hc)).symm.trans h
      refine px_ic (k := 0) rfl rfl rfl ?_
      refine px_forget (n := 0) (lv' := [_, _, _, _, _, _]) rfl ?_
      refine px_forget (n := 1) (lv' := [_, _, _, _, _, _]) rfl ?_
      refine px_forget (n := 3) (lv' := [_, _, _, _, _, _]) rfl ?_
      refine px_forget (n := 4) (lv' := [_, _, _, _, _, _]) rfl ?_
      exact (r_Memory_byteAt_55 h :)
    · replace h := (if_neg (fun q => hc ((lg_cmp_ge _ _).mpr q))).symm.trans h
      refine px_ld rfl rfl rfl rfl rfl ?_
      obtain ⟨t7, h0, h⟩ := xs_some h
      obtain ⟨fs, e1, e2⟩ := xgR_some h0
      refine px_get rfl e1 e2 rfl ?_
      refine px_ld rfl rfl rfl rfl rfl ?_
      obtain ⟨t8, h0, h⟩ := xs_some h
      obtain ⟨fs, e1, e2⟩ := xgR_some h0
      refine px_get rfl e1 e2 rfl ?_
      refine px_ld rfl rfl rfl rfl rfl ?_
      obtain ⟨t9, h0, h⟩ := xs_some h
      obtain ⟨N, f, e1, e2, e3⟩ := xaI_some h0
      subst e3
      refine px_iald rfl e1 rfl e2 rfl ?_
      refine px_ld rfl rfl rfl rfl rfl ?_
      refine px_alu rfl rfl rfl ?_
      refine px_alu rfl rfl rfl ?_
      obtain ⟨fs, h0, h⟩ := xs_some h
      have e1 := xo_some h0
      obtain ⟨t10, ph11, h0, h⟩ := xb_some h
      refine px_cV1 rfl rfl e1 rfl rfl rfl rfl rfl rfl rfl (r_Row_at h0 :) (fun _ _ q => nomatch q.2) (fun r ph' q => ?_)
      obtain ⟨rfl, q⟩ := q
      cases q
      refine px_goto rfl rfl rfl ?_
      refine px_forget (n := 0) (lv' := [_, _, _, _, _, _]) rfl ?_
      refine px_forget (n := 1) (lv' := [_, _, _, _, _, _]) rfl ?_
      refine px_forget (n := 3) (lv' := [_, _, _, _, _, _]) rfl ?_
      refine px_forget (n := 4) (lv' := [_, _, _, _, _, _]) rfl ?_
      exact (r_Memory_byteAt_55 h :)
  · replace h := (if_neg hc).symm.trans h
    refine px_alu rfl rfl rfl ?_
    cases h
    exact px_iret rfl (Or.inl rfl) rfl ⟨rfl, rfl⟩
def f_H_peek (F : Nat) (c : px_CT) (a0 : Nat) (a1 : Int64) (ph : px_H) : Option (Int32 × px_H) :=
  (xgR ph 0 16 a0).bind fun t1 =>
  (xo ph 4 t1).bind fun _ =>
  xb (f_Memory_byteAt F c t1 a1 ph) fun t2 ph3 =>
  some (t2, ph3)
theorem r_H_peek {l : Launch} {g : px_G} {d F : Nat} {a0 : Nat} {a1 : Int64} {ph : px_H} {r : Int32} {ph' : px_H} (h : f_H_peek F (px_ct g) a0 a1 ph = some (r, ph')) : PW l g (d + 3) m_H_peek 0 [.ref a0, .long a1, px_u] [] ph (px_qI r ph') := by
  unfold f_H_peek at h
  refine px_ld rfl rfl rfl rfl rfl ?_
  obtain ⟨t1, h0, h⟩ := xs_some h
  obtain ⟨fs, e1, e2⟩ := xgR_some h0
  refine px_get rfl e1 e2 rfl ?_
  refine px_ld rfl rfl rfl rfl rfl ?_
  obtain ⟨fs, h0, h⟩ := xs_some h
  have e1 := xo_some h0
  obtain ⟨t2, ph3, h0, h⟩ := xb_some h
  refine px_cV1 rfl rfl e1 rfl rfl rfl rfl rfl rfl rfl (r_Memory_byteAt h0 :) (fun _ _ q => nomatch q.2) (fun r ph' q => ?_)
  obtain ⟨rfl, q⟩ := q
  cases q
  cases h
  exact px_iret rfl (Or.inl rfl) rfl ⟨rfl, rfl⟩
def f_Memory_flagsAt_22 (F : Nat) (c : px_CT) (s0 : Int64) (ph : px_H) : Option (Int64 × px_H) :=
  some (s0, ph)
theorem r_Memory_flagsAt_22 {l : Launch} {g : px_G} {d F : Nat} {s0 : Int64} {ph : px_H} {r : Int64} {ph' : px_H} (h : f_Memory_flagsAt_22 F (px_ct g) s0 ph = some (r, ph')) : PW l g (d + 2) m_Memory_flagsAt 22 [px_u, px_u, px_u, px_u] [.long s0] ph (px_qJ r ph') := by
  unfold f_Memory_flagsAt_22 at h
  cases h
  exact px_lret rfl rfl rfl ⟨rfl, rfl⟩
def f_Memory_flagsAt (F : Nat) (c : px_CT) (a0 : Nat) (a1 : Int64) (ph : px_H) : Option (Int64 × px_H) :=
  (xo ph 4 a0).bind fun _ =>
  xb (f_Memory_rowAt F c a0 a1 ph) fun t1 ph2 =>
  if 0 ≤ t1 then
    (xgR ph2 4 5 a0).bind fun t3 =>
    (xaJ ph2 2 t3 t1).bind fun t4 =>
    f_Memory_flagsAt_22 F c t4 ph2
  else
    f_Memory_flagsAt_22 F c ((-1 : Int64)) ph2
theorem r_Memory_flagsAt {l : Launch} {g : px_G} {d F : Nat} {a0 : Nat} {a1 : Int64} {ph : px_H} {r : Int64} {ph' : px_H} (h : f_Memory_flagsAt F (px_ct g) a0 a1 ph = some (r, ph')) : PW l g (d + 2) m_Memory_flagsAt 0 [.ref a0, .long a1, px_u, px_u] [] ph (px_qJ r ph') := by
  unfold f_Memory_flagsAt at h
  refine px_ld rfl rfl rfl rfl rfl ?_
  refine px_ld rfl rfl rfl rfl rfl ?_
  obtain ⟨fs, h0, h⟩ := xs_some h
  have e1 := xo_some h0
  obtain ⟨t1, ph2, h0, h⟩ := xb_some h
  refine px_cV1 rfl rfl e1 rfl rfl rfl rfl rfl rfl rfl (r_Memory_rowAt h0 :) (fun _ _ q => nomatch q.2) (fun r ph' q => ?_)
  obtain ⟨rfl, q⟩ := q
  cases q
  refine px_st (lv' := [_, _, _, _]) rfl rfl rfl rfl rfl rfl rfl ?_
  refine px_ld rfl rfl rfl rfl rfl ?_
  refine px_ifge rfl rfl rfl (fun hc => ?_) (fun hc => ?_)
  · replace h := (if_pos hc).symm.trans h
    refine px_ld rfl rfl rfl rfl rfl ?_
    obtain ⟨t3, h0, h⟩ := xs_some h
    obtain ⟨fs, e1, e2⟩ := xgR_some h0
    refine px_get rfl e1 e2 rfl ?_
    refine px_ld rfl rfl rfl rfl rfl ?_
    obtain ⟨t4, h0, h⟩ := xs_some h
    obtain ⟨N, f, e1, e2, e3⟩ := xaJ_some h0
    subst e3
    refine px_lald rfl e1 rfl e2 rfl ?_
    refine px_forget (n := 0) (lv' := [_, _, _, _]) rfl ?_
    refine px_forget (n := 1) (lv' := [_, _, _, _]) rfl ?_
    refine px_forget (n := 3) (lv' := [_, _, _, _]) rfl ?_
    exact (r_Memory_flagsAt_22 h :)
  · replace h := (if_neg hc).symm.trans h
    refine px_ldc2 rfl rfl rfl ?_
    refine px_goto rfl rfl rfl ?_
    refine px_forget (n := 0) (lv' := [_, _, _, _]) rfl ?_
    refine px_forget (n := 1) (lv' := [_, _, _, _]) rfl ?_
    refine px_forget (n := 3) (lv' := [_, _, _, _]) rfl ?_
    exact (r_Memory_flagsAt_22 h :)
def f_H_flags (F : Nat) (c : px_CT) (a0 : Nat) (a1 : Int64) (ph : px_H) : Option (Int64 × px_H) :=
  (xgR ph 0 16 a0).bind fun t1 =>
  (xo ph 4 t1).bind fun _ =>
  xb (f_Memory_flagsAt F c t1 a1 ph) fun t2 ph3 =>
  some (t2, ph3)
theorem r_H_flags {l : Launch} {g : px_G} {d F : Nat} {a0 : Nat} {a1 : Int64} {ph : px_H} {r : Int64} {ph' : px_H} (h : f_H_flags F (px_ct g) a0 a1 ph = some (r, ph')) : PW l g (d + 3) m_H_flags 0 [.ref a0, .long a1, px_u] [] ph (px_qJ r ph') := by
  unfold f_H_flags at h
  refine px_ld rfl rfl rfl rfl rfl ?_
  obtain ⟨t1, h0, h⟩ := xs_some h
  obtain ⟨fs, e1, e2⟩ := xgR_some h0
  refine px_get rfl e1 e2 rfl ?_
  refine px_ld rfl rfl rfl rfl rfl ?_
  obtain ⟨fs, h0, h⟩ := xs_some h
  have e1 := xo_some h0
  obtain ⟨t2, ph3, h0, h⟩ := xb_some h
  refine px_cV1 rfl rfl e1 rfl rfl rfl rfl rfl rfl rfl (r_Memory_flagsAt h0 :) (fun _ _ q => nomatch q.2) (fun r ph' q => ?_)
  obtain ⟨rfl, q⟩ := q
  cases q
  cases h
  exact px_lret rfl rfl rfl ⟨rfl, rfl⟩
def f_H_feed_11 (F : Nat) (c : px_CT) (ph : px_H) : Option (Int32 × px_H) :=
  none
theorem r_H_feed_11 {l : Launch} {g : px_G} {d F : Nat} {ph : px_H} {r : Int32} {ph' : px_H} (h : f_H_feed_11 F (px_ct g) ph = some (r, ph')) : PW l g (d + 1) m_H_feed 11 [px_u, px_u, px_u, px_u] [] ph (px_qI r ph') := by
  unfold f_H_feed_11 at h
  cases h
def f_H_feed (F : Nat) (c : px_CT) (a0 : Nat) (a1 : Int32) (a2 : Int64) (ph : px_H) : Option (Int32 × px_H) :=
  if a1 < (nI 1) then
    f_H_feed_11 F c ph
  else
    if a1 ≤ (nI 8) then
      (xgR ph 0 0 a0).bind fun t1 =>
      (xgI ph 10 1 t1).bind fun t2 =>
      if (t2 + a1) ≤ (nI 8192) then
        (xgR ph 0 0 a0).bind fun t3 =>
        (xo ph 10 t3).bind fun _ =>
        xb (f_Row_put F c t3 a1 a2 ph) fun _ ph4 =>
        (xgR ph4 0 0 a0).bind fun t5 =>
        (xgI ph4 10 1 t5).bind fun t6 =>
        some (t6, ph4)
      else
        none
    else
      f_H_feed_11 F c ph
theorem r_H_feed {l : Launch} {g : px_G} {d F : Nat} {a0 : Nat} {a1 : Int32} {a2 : Int64} {ph : px_H} {r : Int32} {ph' : px_H} (h : f_H_feed F (px_ct g) a0 a1 a2 ph = some (r, ph')) : PW l g (d + 1) m_H_feed 0 [.ref a0, .int a1, .long a2, px_u] [] ph (px_qI r ph') := by
  unfold f_H_feed at h
  refine px_ld rfl rfl rfl rfl rfl ?_
  refine px_ic (k := 1) rfl rfl rfl ?_
  refine px_iclt rfl rfl rfl (fun hc => ?_) (fun hc => ?_)
  · replace h := (if_pos hc).symm.trans h
    refine px_forget (n := 0) (lv' := [_, _, _, _]) rfl ?_
    refine px_forget (n := 1) (lv' := [_, _, _, _]) rfl ?_
    refine px_forget (n := 2) (lv' := [_, _, _, _]) rfl ?_
    exact (r_H_feed_11 h :)
  · replace h := (if_neg hc).symm.trans h
    refine px_ld rfl rfl rfl rfl rfl ?_
    refine px_ic (k := 8) rfl rfl rfl ?_
    refine px_icle rfl rfl rfl (fun hc => ?_) (fun hc => ?_)
    · replace h := (if_pos hc).symm.trans h
      refine px_ld rfl rfl rfl rfl rfl ?_
      obtain ⟨t1, h0, h⟩ := xs_some h
      obtain ⟨fs, e1, e2⟩ := xgR_some h0
      refine px_get rfl e1 e2 rfl ?_
      obtain ⟨t2, h0, h⟩ := xs_some h
      obtain ⟨fs, e1, e2⟩ := xgI_some h0
      refine px_get rfl e1 e2 rfl ?_
      refine px_ld rfl rfl rfl rfl rfl ?_
      refine px_alu rfl rfl rfl ?_
      refine px_ic (k := 8192) rfl rfl rfl ?_
      refine px_icle rfl rfl rfl (fun hc => ?_) (fun hc => ?_)
      · replace h := (if_pos hc).symm.trans h
        refine px_ld rfl rfl rfl rfl rfl ?_
        obtain ⟨t3, h0, h⟩ := xs_some h
        obtain ⟨fs, e1, e2⟩ := xgR_some h0
        refine px_get rfl e1 e2 rfl ?_
        refine px_ld rfl rfl rfl rfl rfl ?_
        refine px_ld rfl rfl rfl rfl rfl ?_
        obtain ⟨fs, h0, h⟩ := xs_some h
        have e1 := xo_some h0
        obtain ⟨u0, ph4, h0, h⟩ := xb_some h
        refine px_cV2 rfl rfl e1 rfl rfl rfl rfl rfl rfl rfl (r_Row_put h0 :) (fun _ _ q => nomatch q.2) (fun r ph' q => ?_)
        obtain ⟨rfl, q⟩ := q
        cases q
        refine px_ld rfl rfl rfl rfl rfl ?_
        obtain ⟨t5, h0, h⟩ := xs_some h
        obtain ⟨fs, e1, e2⟩ := xgR_some h0
        refine px_get rfl e1 e2 rfl ?_
        obtain ⟨t6, h0, h⟩ := xs_some h
        obtain ⟨fs, e1, e2⟩ := xgI_some h0
        refine px_get rfl e1 e2 rfl ?_
        cases h
        exact px_iret rfl (Or.inl rfl) rfl ⟨rfl, rfl⟩
      · replace h := (if_neg hc).symm.trans h
        cases h
    · replace h := (if_neg hc).symm.trans h
      refine px_forget (n := 0) (lv' := [_, _, _, _]) rfl ?_
      refine px_forget (n := 1) (lv' := [_, _, _, _]) rfl ?_
      refine px_forget (n := 2) (lv' := [_, _, _, _]) rfl ?_
      exact (r_H_feed_11 h :)
