/-! methods as functions: LinkHouse -/
def f_Names_at_44 (F : Nat) (c : px_CT) (s0 : Option Nat) (ph : px_H) : Option (Option Nat × px_H) :=
  some (s0, ph)
theorem r_Names_at_44 {l : Launch} {g : px_G} {d F : Nat} {s0 : Option Nat} {ph : px_H} {r : Option Nat} {ph' : px_H} (h : f_Names_at_44 F (px_ct g) s0 ph = some (r, ph')) : PW l g (d + 0) m_Names_at 44 [px_u, px_u, px_u] [va_rf s0] ph (px_qN r ph') := by
  unfold f_Names_at_44 at h
  cases h
  exact px_aret rfl rfl (Or.inl ⟨_, rfl⟩) (by first | rfl | (cases s0 <;> rfl) | (cases r <;> rfl) | (cases s0 <;> cases r <;> rfl)) rfl ⟨rfl, rfl⟩
def f_Names_at_31 (F : Nat) (c : px_CT) (a0 : Nat) (s0 : Option Nat) (ph : px_H) : Option (Option Nat × px_H) :=
  (match s0 with
    | none => (xgR ph 6 1 a0).bind fun t2 =>
    f_Names_at_44 F c (some t2) ph
    | some p1 => f_Names_at_44 F c (some p1) ph)
theorem r_Names_at_31 {l : Launch} {g : px_G} {d F : Nat} {a0 : Nat} {s0 : Option Nat} {ph : px_H} {r : Option Nat} {ph' : px_H} (h : f_Names_at_31 F (px_ct g) a0 s0 ph = some (r, ph')) : PW l g (d + 0) m_Names_at 31 [.ref a0, px_u, px_u] [va_rf s0] ph (px_qN r ph') := by
  unfold f_Names_at_31 at h
  refine px_st (lv' := [.ref a0, px_u, va_rf s0]) rfl rfl (by first | rfl | (cases s0 <;> rfl)) (by first | rfl | (cases s0 <;> rfl)) rfl (by first | rfl | (cases s0 <;> rfl)) rfl ?_
  refine px_ld rfl rfl rfl (by first | rfl | (cases s0 <;> rfl)) rfl ?_
  cases s0 with
  | none =>
    refine px_ifnnN rfl rfl ?_
    refine px_ld rfl rfl rfl rfl rfl ?_
    obtain ⟨t2, h0, h⟩ := xs_some h
    obtain ⟨fs, e1, e2⟩ := xgR_some h0
    refine px_get rfl e1 e2 rfl ?_
    refine px_goto rfl rfl rfl ?_
    refine px_forget (n := 0) (lv' := [_, _, _]) rfl ?_
    refine px_forget (n := 2) (lv' := [_, _, _]) rfl ?_
    exact (r_Names_at_44 h :)
  | some p1 =>
    refine px_ifnnR rfl rfl rfl ?_
    refine px_ld rfl rfl rfl rfl rfl ?_
    refine px_forget (n := 0) (lv' := [_, _, _]) rfl ?_
    refine px_forget (n := 2) (lv' := [_, _, _]) rfl ?_
    exact (r_Names_at_44 h :)
def f_Names_at_30 (F : Nat) (c : px_CT) (a0 : Nat) (ph : px_H) : Option (Option Nat × px_H) :=
  f_Names_at_31 F c a0 none ph
theorem r_Names_at_30 {l : Launch} {g : px_G} {d F : Nat} {a0 : Nat} {ph : px_H} {r : Option Nat} {ph' : px_H} (h : f_Names_at_30 F (px_ct g) a0 ph = some (r, ph')) : PW l g (d + 0) m_Names_at 30 [.ref a0, px_u, px_u] [] ph (px_qN r ph') := by
  unfold f_Names_at_30 at h
  refine px_alu rfl rfl rfl ?_
  exact (r_Names_at_31 h :)
def f_Names_at (F : Nat) (c : px_CT) (a0 : Nat) (a1 : Int32) (ph : px_H) : Option (Option Nat × px_H) :=
  if a1 < 0 then
    f_Names_at_30 F c a0 ph
  else
    (xgI ph 6 2 a0).bind fun t1 =>
    if t1 ≤ a1 then
      f_Names_at_30 F c a0 ph
    else
      (xgR ph 6 0 a0).bind fun t2 =>
      (xal ph 5 t2).bind fun t3 =>
      if t3 ≤ a1 then
        f_Names_at_30 F c a0 ph
      else
        (xgR ph 6 0 a0).bind fun t4 =>
        (xaN ph 5 t4 a1).bind fun t5 =>
        f_Names_at_31 F c a0 t5 ph
theorem r_Names_at {l : Launch} {g : px_G} {d F : Nat} {a0 : Nat} {a1 : Int32} {ph : px_H} {r : Option Nat} {ph' : px_H} (h : f_Names_at F (px_ct g) a0 a1 ph = some (r, ph')) : PW l g (d + 0) m_Names_at 0 [.ref a0, .int a1, px_u] [] ph (px_qN r ph') := by
  unfold f_Names_at at h
  refine px_ld rfl rfl rfl rfl rfl ?_
  refine px_iflt rfl rfl rfl (fun hc => ?_) (fun hc => ?_)
  · replace h := (if_pos hc).symm.trans h
    refine px_forget (n := 1) (lv' := [_, _, _]) rfl ?_
    exact (r_Names_at_30 h :)
  · replace h := (if_neg hc).symm.trans h
    refine px_ld rfl rfl rfl rfl rfl ?_
    refine px_ld rfl rfl rfl rfl rfl ?_
    obtain ⟨t1, h0, h⟩ := xs_some h
    obtain ⟨fs, e1, e2⟩ := xgI_some h0
    refine px_get rfl e1 e2 rfl ?_
    refine px_icge rfl rfl rfl (fun hc => ?_) (fun hc => ?_)
    · replace h := (if_pos hc).symm.trans h
      refine px_forget (n := 1) (lv' := [_, _, _]) rfl ?_
      exact (r_Names_at_30 h :)
    · replace h := (if_neg hc).symm.trans h
      refine px_ld rfl rfl rfl rfl rfl ?_
      refine px_ld rfl rfl rfl rfl rfl ?_
      obtain ⟨t2, h0, h⟩ := xs_some h
      obtain ⟨fs, e1, e2⟩ := xgR_some h0
      refine px_get rfl e1 e2 rfl ?_
      obtain ⟨t3, h0, h⟩ := xs_some h
      obtain ⟨x, e1, e3⟩ := xal_some h0
      subst e3
      refine px_alen rfl e1 rfl rfl ?_
      refine px_icge rfl rfl rfl (fun hc => ?_) (fun hc => ?_)
      · replace h := (if_pos hc).symm.trans h
        refine px_forget (n := 1) (lv' := [_, _, _]) rfl ?_
        exact (r_Names_at_30 h :)
      · replace h := (if_neg hc).symm.trans h
        refine px_ld rfl rfl rfl rfl rfl ?_
        obtain ⟨t4, h0, h⟩ := xs_some h
        obtain ⟨fs, e1, e2⟩ := xgR_some h0
        refine px_get rfl e1 e2 rfl ?_
        refine px_ld rfl rfl rfl rfl rfl ?_
        obtain ⟨t5, h0, h⟩ := xs_some h
        obtain ⟨N, f, e1, e2, e3⟩ := xaN_some h0
        refine px_aaldO rfl e1 rfl e2 e3 rfl ?_
        refine px_goto rfl rfl rfl ?_
        refine px_forget (n := 1) (lv' := [_, _, _]) rfl ?_
        exact (r_Names_at_31 h :)
def f_Names_find_85 (F : Nat) (c : px_CT) (ph : px_H) : Option (Option Nat × px_H) :=
  some (none, ph)
theorem r_Names_find_85 {l : Launch} {g : px_G} {d F : Nat} {ph : px_H} {r : Option Nat} {ph' : px_H} (h : f_Names_find_85 F (px_ct g) ph = some (r, ph')) : PW l g (d + 0) m_Names_find 85 [px_u, px_u, px_u, px_u] [] ph (px_qN r ph') := by
  unfold f_Names_find_85 at h
  refine px_alu rfl rfl rfl ?_
  cases h
  exact px_aret rfl rfl (Or.inl ⟨_, rfl⟩) (by first | rfl | (cases none <;> rfl) | (cases r <;> rfl) | (cases none <;> cases r <;> rfl)) rfl ⟨rfl, rfl⟩
def f_Names_find_79 (F : Nat) (c : px_CT) (k2 : Nat → Option Nat → Int32 → px_H → Option (Option Nat × px_H)) (a0 : Nat) (a1 : Option Nat) (a2 : Int32) (ph : px_H) : Option (Option Nat × px_H) :=
  k2 a0 a1 (a2 + nI 1) ph
theorem r_Names_find_79 {l : Launch} {g : px_G} {d F : Nat} {k2 : Nat → Option Nat → Int32 → px_H → Option (Option Nat × px_H)} (hk2 : ∀ {a0 : Nat} {a1 : Option Nat} {a2 : Int32} {ph : px_H} {r : Option Nat} {ph' : px_H}, k2 a0 a1 a2 ph = some (r, ph') → PW l g (d + 0) m_Names_find 2 [.ref a0, va_rf a1, .int a2, px_u] [] ph (px_qN r ph')) {a0 : Nat} {a1 : Option Nat} {a2 : Int32} {ph : px_H} {r : Option Nat} {ph' : px_H} (h : f_Names_find_79 F (px_ct g) k2 a0 a1 a2 ph = some (r, ph')) : PW l g (d + 0) m_Names_find 79 [.ref a0, va_rf a1, .int a2, px_u] [] ph (px_qN r ph') := by
  unfold f_Names_find_79 at h
  refine px_iinc (lv' := [_, _, _, _]) rfl rfl rfl (by first | rfl | (cases a1 <;> rfl)) rfl rfl ?_
  refine px_goto rfl rfl rfl ?_
  exact (hk2 h :)
def f_Names_find_77 (F : Nat) (c : px_CT) (a3 : Option Nat) (ph : px_H) : Option (Option Nat × px_H) :=
  some (a3, ph)
theorem r_Names_find_77 {l : Launch} {g : px_G} {d F : Nat} {a3 : Option Nat} {ph : px_H} {r : Option Nat} {ph' : px_H} (h : f_Names_find_77 F (px_ct g) a3 ph = some (r, ph')) : PW l g (d + 0) m_Names_find 77 [px_u, px_u, px_u, va_rf a3] [] ph (px_qN r ph') := by
  unfold f_Names_find_77 at h
  refine px_ld rfl rfl rfl (by first | rfl | (cases a3 <;> rfl)) rfl ?_
  cases h
  exact px_aret rfl rfl (Or.inl ⟨_, rfl⟩) (by first | rfl | (cases a3 <;> rfl) | (cases r <;> rfl) | (cases a3 <;> cases r <;> rfl)) rfl ⟨rfl, rfl⟩
def f_Names_find_2 (F : Nat) (c : px_CT) : Nat → Nat → Option Nat → Int32 → px_H → Option (Option Nat × px_H)
  | 0, _, _, _, _ => none
  | n + 1, a0, a1, a2, ph =>
    (xgI ph 6 2 a0).bind fun t1 =>
    if t1 ≤ a2 then
      f_Names_find_85 F c ph
    else
      (xgR ph 6 0 a0).bind fun t2 =>
      (xal ph 5 t2).bind fun t3 =>
      if t3 ≤ a2 then
        f_Names_find_85 F c ph
      else
        (xgR ph 6 0 a0).bind fun t4 =>
        (xaN ph 5 t4 a2).bind fun t5 =>
        (match t5 with
          | none => f_Names_find_79 F c (f_Names_find_2 F c n) a0 a1 a2 ph
          | some p6 => (xgJ ph 5 0 p6).bind fun t7 =>
          (a1).bind fun p8 =>
          (xgJ ph 5 0 p8).bind fun t9 =>
          if t7 = t9 then
            (xgJ ph 5 1 p6).bind fun t10 =>
            (xgJ ph 5 1 p8).bind fun t11 =>
            if t10 = t11 then
              (xgJ ph 5 2 p6).bind fun t12 =>
              (xgJ ph 5 2 p8).bind fun t13 =>
              if t12 = t13 then
                (xgI ph 5 3 p6).bind fun t14 =>
                (xgI ph 5 3 p8).bind fun t15 =>
                if t14 = t15 then
                  f_Names_find_77 F c (some p6) ph
                else
                  f_Names_find_79 F c (f_Names_find_2 F c n) a0 (some p8) a2 ph
              else
                f_Names_find_79 F c (f_Names_find_2 F c n) a0 (some p8) a2 ph
            else
              f_Names_find_79 F c (f_Names_find_2 F c n) a0 (some p8) a2 ph
          else
            f_Names_find_79 F c (f_Names_find_2 F c n) a0 (some p8) a2 ph)
theorem r_Names_find_2 {l : Launch} {g : px_G} {d F : Nat} : ∀ (n : Nat) {a0 : Nat} {a1 : Option Nat} {a2 : Int32} {ph : px_H} {r : Option Nat} {ph' : px_H}, f_Names_find_2 F (px_ct g) n a0 a1 a2 ph = some (r, ph') → PW l g (d + 0) m_Names_find 2 [.ref a0, va_rf a1, .int a2, px_u] [] ph (px_qN r ph') := by
  intro n
  induction n with
  | zero => intro _ _ _ _ _ _ h; cases h
  | succ n ih =>
    intro a0 a1 a2 ph r ph' h
    unfold f_Names_find_2 at h
    refine px_ld rfl rfl rfl rfl rfl ?_
    refine px_ld rfl rfl rfl rfl rfl ?_
    obtain ⟨t1, h0, h⟩ := xs_some h
    obtain ⟨fs, e1, e2⟩ := xgI_some h0
    refine px_get rfl e1 e2 rfl ?_
    refine px_icge rfl rfl rfl (fun hc => ?_) (fun hc => ?_)
    · replace h := (if_pos hc).symm.trans h
      refine px_forget (n := 0) (lv' := [_, _, _, _]) rfl ?_
      refine px_forget (n := 1) (lv' := [_, _, _, _]) rfl ?_
      refine px_forget (n := 2) (lv' := [_, _, _, _]) rfl ?_
      exact (r_Names_find_85 h :)
    · replace h := (if_neg hc).symm.trans h
      refine px_ld rfl rfl rfl rfl rfl ?_
      refine px_ld rfl rfl rfl rfl rfl ?_
      obtain ⟨t2, h0, h⟩ := xs_some h
      obtain ⟨fs, e1, e2⟩ := xgR_some h0
      refine px_get rfl e1 e2 rfl ?_
      obtain ⟨t3, h0, h⟩ := xs_some h
      obtain ⟨x, e1, e3⟩ := xal_some h0
      subst e3
      refine px_alen rfl e1 rfl rfl ?_
      refine px_icge rfl rfl rfl (fun hc => ?_) (fun hc => ?_)
      · replace h := (if_pos hc).symm.trans h
        refine px_forget (n := 0) (lv' := [_, _, _, _]) rfl ?_
        refine px_forget (n := 1) (lv' := [_, _, _, _]) rfl ?_
        refine px_forget (n := 2) (lv' := [_, _, _, _]) rfl ?_
        exact (r_Names_find_85 h :)
      · replace h := (if_neg hc).symm.trans h
        refine px_ld rfl rfl rfl rfl rfl ?_
        obtain ⟨t4, h0, h⟩ := xs_some h
        obtain ⟨fs, e1, e2⟩ := xgR_some h0
        refine px_get rfl e1 e2 rfl ?_
        refine px_ld rfl rfl rfl rfl rfl ?_
        obtain ⟨t5, h0, h⟩ := xs_some h
        obtain ⟨N, f, e1, e2, e3⟩ := xaN_some h0
        refine px_aaldO rfl e1 rfl e2 e3 rfl ?_
        refine px_st (lv' := [.ref a0, va_rf a1, .int a2, va_rf t5]) rfl rfl (by first | rfl | (cases t5 <;> rfl)) (by first | rfl | (cases t5 <;> rfl)) rfl (by first | rfl | (cases t5 <;> rfl)) rfl ?_
        refine px_ld rfl rfl rfl (by first | rfl | (cases t5 <;> rfl)) rfl ?_
        cases t5 with
        | none =>
          refine px_ifnullN rfl rfl rfl ?_
          refine px_forget (n := 3) (lv' := [_, _, _, _]) rfl ?_
          exact (r_Names_find_79 @ih h :)
        | some p6 =>
          refine px_ifnullR rfl rfl ?_
          refine px_ld rfl rfl rfl rfl rfl ?_
          obtain ⟨t7, h0, h⟩ := xs_some h
          obtain ⟨fs, e1, e2⟩ := xgJ_some h0
          refine px_get rfl e1 e2 rfl ?_
          refine px_ld rfl rfl rfl (by first | rfl | (cases a1 <;> rfl)) rfl ?_
          obtain ⟨p8, h0, h⟩ := xs_some h
          revert h
          subst h0
          intro h
          obtain ⟨t9, h0, h⟩ := xs_some h
          obtain ⟨fs, e1, e2⟩ := xgJ_some h0
          refine px_get rfl e1 e2 rfl ?_
          refine px_alu rfl rfl rfl ?_
          refine px_ifne rfl rfl rfl (fun hc => ?_) (fun hc => ?_)
          · replace h := (if_neg (fun q => hc ((lg_cmp_eq _ _).mpr q))).symm.trans h
            refine px_forget (n := 3) (lv' := [_, _, _, _]) rfl ?_
            exact (r_Names_find_79 @ih h :)
          · replace h := (if_pos ((lg_cmp_eq _ _).mp hc)).symm.trans h
            refine px_ld rfl rfl rfl rfl rfl ?_
            obtain ⟨t10, h0, h⟩ := xs_some h
            obtain ⟨fs, e1, e2⟩ := xgJ_some h0
            refine px_get rfl e1 e2 rfl ?_
            refine px_ld rfl rfl rfl rfl rfl ?_
            obtain ⟨t11, h0, h⟩ := xs_some h
            obtain ⟨fs, e1, e2⟩ := xgJ_some h0
            refine px_get rfl e1 e2 rfl ?_
            refine px_alu rfl rfl rfl ?_
            refine px_ifne rfl rfl rfl (fun hc => ?_) (fun hc => ?_)
            · replace h := (if_neg (fun q => hc ((lg_cmp_eq _ _).mpr q))).symm.trans h
              refine px_forget (n := 3) (lv' := [_, _, _, _]) rfl ?_
              exact (r_Names_find_79 @ih h :)
            · replace h := (if_pos ((lg_cmp_eq _ _).mp hc)).symm.trans h
              refine px_ld rfl rfl rfl rfl rfl ?_
              obtain ⟨t12, h0, h⟩ := xs_some h
              obtain ⟨fs, e1, e2⟩ := xgJ_some h0
              refine px_get rfl e1 e2 rfl ?_
              refine px_ld rfl rfl rfl rfl rfl ?_
              obtain ⟨t13, h0, h⟩ := xs_some h
              obtain ⟨fs, e1, e2⟩ := xgJ_some h0
              refine px_get rfl e1 e2 rfl ?_
              refine px_alu rfl rfl rfl ?_
              refine px_ifne rfl rfl rfl (fun hc => ?_) (fun hc => ?_)
              · replace h := (if_neg (fun q => hc ((lg_cmp_eq _ _).mpr q))).symm.trans h
                refine px_forget (n := 3) (lv' := [_, _, _, _]) rfl ?_
                exact (r_Names_find_79 @ih h :)
              · replace h := (if_pos ((lg_cmp_eq _ _).mp hc)).symm.trans h
                refine px_ld rfl rfl rfl rfl rfl ?_
                obtain ⟨t14, h0, h⟩ := xs_some h
                obtain ⟨fs, e1, e2⟩ := xgI_some h0
                refine px_get rfl e1 e2 rfl ?_
                refine px_ld rfl rfl rfl rfl rfl ?_
                obtain ⟨t15, h0, h⟩ := xs_some h
                obtain ⟨fs, e1, e2⟩ := xgI_some h0
                refine px_get rfl e1 e2 rfl ?_
                refine px_icne rfl rfl rfl (fun hc => ?_) (fun hc => ?_)
                · replace h := (if_neg hc).symm.trans h
                  refine px_forget (n := 3) (lv' := [_, _, _, _]) rfl ?_
                  exact (r_Names_find_79 @ih h :)
                · replace h := (if_pos hc).symm.trans h
                  refine px_forget (n := 0) (lv' := [_, _, _, _]) rfl ?_
                  refine px_forget (n := 1) (lv' := [_, _, _, _]) rfl ?_
                  refine px_forget (n := 2) (lv' := [_, _, _, _]) rfl ?_
                  exact (r_Names_find_77 h :)
def f_Names_find (F : Nat) (c : px_CT) (a0 : Nat) (a1 : Option Nat) (ph : px_H) : Option (Option Nat × px_H) :=
  f_Names_find_2 F c F a0 a1 (nI 0) ph
theorem r_Names_find {l : Launch} {g : px_G} {d F : Nat} {a0 : Nat} {a1 : Option Nat} {ph : px_H} {r : Option Nat} {ph' : px_H} (h : f_Names_find F (px_ct g) a0 a1 ph = some (r, ph')) : PW l g (d + 0) m_Names_find 0 [.ref a0, va_rf a1, px_u, px_u] [] ph (px_qN r ph') := by
  unfold f_Names_find at h
  refine px_ic (k := 0) rfl rfl rfl ?_
  refine px_st (lv' := [.ref a0, va_rf a1, .int (nI 0), px_u]) rfl rfl rfl rfl (by first | rfl | (cases a1 <;> rfl)) rfl rfl ?_
  exact (r_Names_find_2 _ h :)
def f_Name_init (F : Nat) (c : px_CT) (a0 : Nat) (ph : px_H) : Option (Unit × px_H) :=
  some ((), ph)
theorem r_Name_init {l : Launch} {g : px_G} {d F : Nat} {a0 : Nat} {ph : px_H} {r : Unit} {ph' : px_H} (h : f_Name_init F (px_ct g) a0 ph = some (r, ph')) : PW l g (d + 1) m_Name_init 0 [.ref a0] [] ph (px_qV r ph') := by
  unfold f_Name_init at h
  refine px_ld rfl rfl rfl rfl rfl ?_
  refine px_obj rfl (pg_spc (pc := 1) (s := 9006) (Or.inr (Or.inl rfl)) (by decide) (by decide)) (pg_okw_in pg_objw.1) (pg_at pg_objc rfl) rfl rfl ?_
  cases h
  exact px_vret rfl rfl rfl ⟨rfl, rfl⟩
def f_Name_renew (F : Nat) (c : px_CT) (a0 : Nat) (a1 : Option Nat) (ph : px_H) : Option (Unit × px_H) :=
  (a1).bind fun p1 =>
  (xgJ ph 5 0 p1).bind fun t2 =>
  (xpJ ph 5 0 a0 t2).bind fun ph3 =>
  (xgJ ph3 5 1 p1).bind fun t4 =>
  (xpJ ph3 5 1 a0 t4).bind fun ph5 =>
  (xgJ ph5 5 2 p1).bind fun t6 =>
  (xpJ ph5 5 2 a0 t6).bind fun ph7 =>
  (xgI ph7 5 3 p1).bind fun t8 =>
  (xpI ph7 5 3 a0 t8).bind fun ph9 =>
  (xpI ph9 5 4 a0 (nI 0)).bind fun ph10 =>
  (xpI ph10 5 5 a0 (nI 0)).bind fun ph11 =>
  (xpN ph11 5 6 a0 none).bind fun ph12 =>
  (xpJ ph12 5 7 a0 (lN 0)).bind fun ph13 =>
  (xpJ ph13 5 8 a0 (lN 0)).bind fun ph14 =>
  (xpI ph14 5 9 a0 (nI 0)).bind fun ph15 =>
  (xpZ ph15 5 10 a0 (nI 0)).bind fun ph16 =>
  (xpZ ph16 5 11 a0 (nI 0)).bind fun ph17 =>
  (xpZ ph17 5 12 a0 (nI 0)).bind fun ph18 =>
  (xpZ ph18 5 13 a0 (nI 0)).bind fun ph19 =>
  (xpJ ph19 5 14 a0 (lN 0)).bind fun ph20 =>
  (xpI ph20 5 15 a0 (nI 0)).bind fun ph21 =>
  (xpI ph21 5 16 a0 (nI 0)).bind fun ph22 =>
  (xpI ph22 5 17 a0 (nI 0)).bind fun ph23 =>
  some ((), ph23)
theorem r_Name_renew {l : Launch} {g : px_G} {d F : Nat} {a0 : Nat} {a1 : Option Nat} {ph : px_H} {r : Unit} {ph' : px_H} (h : f_Name_renew F (px_ct g) a0 a1 ph = some (r, ph')) : PW l g (d + 0) m_Name_renew 0 [.ref a0, va_rf a1] [] ph (px_qV r ph') := by
  unfold f_Name_renew at h
  refine px_ld rfl rfl rfl rfl rfl ?_
  refine px_ld rfl rfl rfl (by first | rfl | (cases a1 <;> rfl)) rfl ?_
  obtain ⟨p1, h0, h⟩ := xs_some h
  revert h
  subst h0
  intro h
  obtain ⟨t2, h0, h⟩ := xs_some h
  obtain ⟨fs, e1, e2⟩ := xgJ_some h0
  refine px_get rfl e1 e2 rfl ?_
  obtain ⟨ph3, h0, h⟩ := xs_some h
  obtain ⟨fs, e1, e2, e3⟩ := xpJ_some h0
  subst e3
  refine px_put rfl e1 e2 trivial rfl ?_
  refine px_ld rfl rfl rfl rfl rfl ?_
  refine px_ld rfl rfl rfl rfl rfl ?_
  obtain ⟨t4, h0, h⟩ := xs_some h
  obtain ⟨fs, e1, e2⟩ := xgJ_some h0
  refine px_get rfl e1 e2 rfl ?_
  obtain ⟨ph5, h0, h⟩ := xs_some h
  obtain ⟨fs, e1, e2, e3⟩ := xpJ_some h0
  subst e3
  refine px_put rfl e1 e2 trivial rfl ?_
  refine px_ld rfl rfl rfl rfl rfl ?_
  refine px_ld rfl rfl rfl rfl rfl ?_
  obtain ⟨t6, h0, h⟩ := xs_some h
  obtain ⟨fs, e1, e2⟩ := xgJ_some h0
  refine px_get rfl e1 e2 rfl ?_
  obtain ⟨ph7, h0, h⟩ := xs_some h
  obtain ⟨fs, e1, e2, e3⟩ := xpJ_some h0
  subst e3
  refine px_put rfl e1 e2 trivial rfl ?_
  refine px_ld rfl rfl rfl rfl rfl ?_
  refine px_ld rfl rfl rfl rfl rfl ?_
  obtain ⟨t8, h0, h⟩ := xs_some h
  obtain ⟨fs, e1, e2⟩ := xgI_some h0
  refine px_get rfl e1 e2 rfl ?_
  obtain ⟨ph9, h0, h⟩ := xs_some h
  obtain ⟨fs, e1, e2, e3⟩ := xpI_some h0
  subst e3
  refine px_put rfl e1 e2 trivial rfl ?_
  refine px_ld rfl rfl rfl rfl rfl ?_
  refine px_ic (k := 0) rfl rfl rfl ?_
  obtain ⟨ph10, h0, h⟩ := xs_some h
  obtain ⟨fs, e1, e2, e3⟩ := xpI_some h0
  subst e3
  refine px_put rfl e1 e2 trivial rfl ?_
  refine px_ld rfl rfl rfl rfl rfl ?_
  refine px_ic (k := 0) rfl rfl rfl ?_
  obtain ⟨ph11, h0, h⟩ := xs_some h
  obtain ⟨fs, e1, e2, e3⟩ := xpI_some h0
  subst e3
  refine px_put rfl e1 e2 trivial rfl ?_
  refine px_ld rfl rfl rfl rfl rfl ?_
  refine px_alu rfl rfl rfl ?_
  obtain ⟨ph12, h0, h⟩ := xs_some h
  obtain ⟨fs, e1, e2, e3⟩ := xpN_some h0
  subst e3
  refine px_put rfl e1 e2 (by first | trivial | (cases none <;> trivial)) rfl ?_
  refine px_ld rfl rfl rfl rfl rfl ?_
  refine px_alu rfl rfl rfl ?_
  obtain ⟨ph13, h0, h⟩ := xs_some h
  obtain ⟨fs, e1, e2, e3⟩ := xpJ_some h0
  subst e3
  refine px_put rfl e1 e2 trivial rfl ?_
  refine px_ld rfl rfl rfl rfl rfl ?_
  refine px_alu rfl rfl rfl ?_
  obtain ⟨ph14, h0, h⟩ := xs_some h
  obtain ⟨fs, e1, e2, e3⟩ := xpJ_some h0
  subst e3
  refine px_put rfl e1 e2 trivial rfl ?_
  refine px_ld rfl rfl rfl rfl rfl ?_
  refine px_ic (k := 0) rfl rfl rfl ?_
  obtain ⟨ph15, h0, h⟩ := xs_some h
  obtain ⟨fs, e1, e2, e3⟩ := xpI_some h0
  subst e3
  refine px_put rfl e1 e2 trivial rfl ?_
  refine px_ld rfl rfl rfl rfl rfl ?_
  refine px_ic (k := 0) rfl rfl rfl ?_
  obtain ⟨ph16, h0, h⟩ := xs_some h
  obtain ⟨fs, e1, e2, e3, e4⟩ := xpZ_some h0
  subst e3
  refine px_put rfl e1 e2 e4 rfl ?_
  refine px_ld rfl rfl rfl rfl rfl ?_
  refine px_ic (k := 0) rfl rfl rfl ?_
  obtain ⟨ph17, h0, h⟩ := xs_some h
  obtain ⟨fs, e1, e2, e3, e4⟩ := xpZ_some h0
  subst e3
  refine px_put rfl e1 e2 e4 rfl ?_
  refine px_ld rfl rfl rfl rfl rfl ?_
  refine px_ic (k := 0) rfl rfl rfl ?_
  obtain ⟨ph18, h0, h⟩ := xs_some h
  obtain ⟨fs, e1, e2, e3, e4⟩ := xpZ_some h0
  subst e3
  refine px_put rfl e1 e2 e4 rfl ?_
  refine px_ld rfl rfl rfl rfl rfl ?_
  refine px_ic (k := 0) rfl rfl rfl ?_
  obtain ⟨ph19, h0, h⟩ := xs_some h
  obtain ⟨fs, e1, e2, e3, e4⟩ := xpZ_some h0
  subst e3
  refine px_put rfl e1 e2 e4 rfl ?_
  refine px_ld rfl rfl rfl rfl rfl ?_
  refine px_alu rfl rfl rfl ?_
  obtain ⟨ph20, h0, h⟩ := xs_some h
  obtain ⟨fs, e1, e2, e3⟩ := xpJ_some h0
  subst e3
  refine px_put rfl e1 e2 trivial rfl ?_
  refine px_ld rfl rfl rfl rfl rfl ?_
  refine px_ic (k := 0) rfl rfl rfl ?_
  obtain ⟨ph21, h0, h⟩ := xs_some h
  obtain ⟨fs, e1, e2, e3⟩ := xpI_some h0
  subst e3
  refine px_put rfl e1 e2 trivial rfl ?_
  refine px_ld rfl rfl rfl rfl rfl ?_
  refine px_ic (k := 0) rfl rfl rfl ?_
  obtain ⟨ph22, h0, h⟩ := xs_some h
  obtain ⟨fs, e1, e2, e3⟩ := xpI_some h0
  subst e3
  refine px_put rfl e1 e2 trivial rfl ?_
  refine px_ld rfl rfl rfl rfl rfl ?_
  refine px_ic (k := 0) rfl rfl rfl ?_
  obtain ⟨ph23, h0, h⟩ := xs_some h
  obtain ⟨fs, e1, e2, e3⟩ := xpI_some h0
  subst e3
  refine px_put rfl e1 e2 trivial rfl ?_
  cases h
  exact px_vret rfl rfl rfl ⟨rfl, rfl⟩
def f_Names_enter_61 (F : Nat) (c : px_CT) (a0 : Nat) (a1 : Option Nat) (a2 : Option Nat) (ph : px_H) : Option (Option Nat × px_H) :=
  (a2).bind fun p1 =>
  (xo ph 5 p1).bind fun _ =>
  xb (f_Name_renew F c p1 a1 ph) fun _ ph2 =>
  (xgI ph2 6 2 a0).bind fun t3 =>
  (xpI ph2 6 2 a0 (t3 + (nI 1))).bind fun ph4 =>
  some (some p1, ph4)
theorem r_Names_enter_61 {l : Launch} {g : px_G} {d F : Nat} {a0 : Nat} {a1 : Option Nat} {a2 : Option Nat} {ph : px_H} {r : Option Nat} {ph' : px_H} (h : f_Names_enter_61 F (px_ct g) a0 a1 a2 ph = some (r, ph')) : PW l g (d + 2) m_Names_enter 61 [.ref a0, va_rf a1, va_rf a2] [] ph (px_qN r ph') := by
  unfold f_Names_enter_61 at h
  refine px_ld rfl rfl rfl (by first | rfl | (cases a2 <;> rfl)) rfl ?_
  refine px_ld rfl rfl rfl (by first | rfl | (cases a1 <;> rfl)) rfl ?_
  obtain ⟨p1, h0, h⟩ := xs_some h
  revert h
  subst h0
  intro h
  obtain ⟨fs, h0, h⟩ := xs_some h
  have e1 := xo_some h0
  obtain ⟨u0, ph2, h0, h⟩ := xb_some h
  refine px_cV1 (lv0 := [.ref p1, va_rf a1]) rfl rfl e1 rfl rfl rfl (by first | rfl | (cases a1 <;> rfl)) rfl (by first | rfl | (cases a1 <;> rfl)) rfl (r_Name_renew h0 :) (fun _ _ q => nomatch q.2) (fun r ph' q => ?_)
  obtain ⟨rfl, q⟩ := q
  cases q
  refine px_ld rfl rfl rfl rfl rfl ?_
  refine px_alu rfl rfl rfl ?_
  obtain ⟨t3, h0, h⟩ := xs_some h
  obtain ⟨fs, e1, e2⟩ := xgI_some h0
  refine px_get rfl e1 e2 rfl ?_
  refine px_ic (k := 1) rfl rfl rfl ?_
  refine px_alu rfl rfl rfl ?_
  obtain ⟨ph4, h0, h⟩ := xs_some h
  obtain ⟨fs, e1, e2, e3⟩ := xpI_some h0
  subst e3
  refine px_put rfl e1 e2 trivial rfl ?_
  refine px_ld rfl rfl rfl rfl rfl ?_
  cases h
  exact px_aret rfl rfl (Or.inl ⟨_, rfl⟩) rfl rfl ⟨rfl, rfl⟩
def f_Names_enter (F : Nat) (c : px_CT) (a0 : Nat) (a1 : Option Nat) (ph : px_H) : Option (Option Nat × px_H) :=
  (xo ph 6 a0).bind fun _ =>
  xb (f_Names_find F c a0 a1 ph) fun t1 ph2 =>
  (match t1 with
    | none => (xgI ph2 6 2 a0).bind fun t4 =>
    (xgR ph2 6 0 a0).bind fun t5 =>
    (xal ph2 5 t5).bind fun t6 =>
    if t4 < t6 then
      (xgR ph2 6 0 a0).bind fun t7 =>
      (xgI ph2 6 2 a0).bind fun t8 =>
      (xaN ph2 5 t7 t8).bind fun t9 =>
      (match t9 with
        | none => xb (xnew ph2 5) fun t11 ph12 =>
        xb (f_Name_init F c t11 ph12) fun _ ph13 =>
        (xgR ph13 6 0 a0).bind fun t14 =>
        (xgI ph13 6 2 a0).bind fun t15 =>
        (xsO ph13 5 5 t14 t15 (some t11)).bind fun ph16 =>
        f_Names_enter_61 F c a0 a1 (some t11) ph16
        | some p10 => f_Names_enter_61 F c a0 a1 (some p10) ph2)
    else
      (xgR ph2 6 1 a0).bind fun t17 =>
      some (some t17, ph2)
    | some p3 => some (some p3, ph2))
theorem r_Names_enter {l : Launch} {g : px_G} {d F : Nat} {a0 : Nat} {a1 : Option Nat} {ph : px_H} {r : Option Nat} {ph' : px_H} (h : f_Names_enter F (px_ct g) a0 a1 ph = some (r, ph')) : PW l g (d + 2) m_Names_enter 0 [.ref a0, va_rf a1, px_u] [] ph (px_qN r ph') := by
  unfold f_Names_enter at h
  refine px_ld rfl rfl rfl rfl rfl ?_
  refine px_ld rfl rfl rfl (by first | rfl | (cases a1 <;> rfl)) rfl ?_
  obtain ⟨fs, h0, h⟩ := xs_some h
  have e1 := xo_some h0
  obtain ⟨t1, ph2, h0, h⟩ := xb_some h
  refine px_cV1 (lv0 := [.ref a0, va_rf a1, px_u, px_u]) rfl rfl e1 rfl rfl rfl (by first | rfl | (cases a1 <;> rfl)) rfl (by first | rfl | (cases a1 <;> rfl)) rfl (r_Names_find h0 :) (fun _ _ q => nomatch q.2) (fun r ph' q => ?_)
  obtain ⟨rfl, q⟩ := q
  cases q
  refine px_st (lv' := [.ref a0, va_rf a1, va_rf t1]) rfl rfl (by first | rfl | (cases t1 <;> rfl)) (by first | rfl | (cases t1 <;> rfl)) (by first | rfl | (cases a1 <;> rfl)) (by first | rfl | (cases t1 <;> rfl)) rfl ?_
  refine px_ld rfl rfl rfl (by first | rfl | (cases t1 <;> rfl)) rfl ?_
  cases t1 with
  | none =>
    refine px_ifnullN rfl rfl rfl ?_
    refine px_ld rfl rfl rfl rfl rfl ?_
    obtain ⟨t4, h0, h⟩ := xs_some h
    obtain ⟨fs, e1, e2⟩ := xgI_some h0
    refine px_get rfl e1 e2 rfl ?_
    refine px_ld rfl rfl rfl rfl rfl ?_
    obtain ⟨t5, h0, h⟩ := xs_some h
    obtain ⟨fs, e1, e2⟩ := xgR_some h0
    refine px_get rfl e1 e2 rfl ?_
    obtain ⟨t6, h0, h⟩ := xs_some h
    obtain ⟨x, e1, e3⟩ := xal_some h0
    subst e3
    refine px_alen rfl e1 rfl rfl ?_
    refine px_iclt rfl rfl rfl (fun hc => ?_) (fun hc => ?_)
    · replace h := (if_pos hc).symm.trans h
      refine px_ld rfl rfl rfl rfl rfl ?_
      obtain ⟨t7, h0, h⟩ := xs_some h
      obtain ⟨fs, e1, e2⟩ := xgR_some h0
      refine px_get rfl e1 e2 rfl ?_
      refine px_ld rfl rfl rfl rfl rfl ?_
      obtain ⟨t8, h0, h⟩ := xs_some h
      obtain ⟨fs, e1, e2⟩ := xgI_some h0
      refine px_get rfl e1 e2 rfl ?_
      obtain ⟨t9, h0, h⟩ := xs_some h
      obtain ⟨N, f, e1, e2, e3⟩ := xaN_some h0
      refine px_aaldO rfl e1 rfl e2 e3 rfl ?_
      refine px_st (lv' := [.ref a0, va_rf a1, va_rf t9]) rfl rfl (by first | rfl | (cases t9 <;> rfl)) (by first | rfl | (cases t9 <;> rfl)) (by first | rfl | (cases a1 <;> rfl)) (by first | rfl | (cases t9 <;> rfl)) rfl ?_
      refine px_ld rfl rfl rfl (by first | rfl | (cases t9 <;> rfl)) rfl ?_
      cases t9 with
      | none =>
        refine px_ifnnN rfl rfl ?_
        obtain ⟨t11, ph12, h0, h⟩ := xb_some h
        obtain ⟨C, T, N, e0, e1, e2, e3, e4⟩ := xnew_some h0
        subst e4
        refine px_new rfl e0 e1 e2 rfl ?_
        rw [← e3]
        refine px_alu rfl rfl rfl ?_
        obtain ⟨u0, ph13, h0, h⟩ := xb_some h
        refine px_cI0 rfl rfl rfl rfl rfl rfl rfl (r_Name_init h0 :) (fun _ _ q => nomatch q.2) (fun r ph' q => ?_)
        obtain ⟨rfl, q⟩ := q
        cases q
        refine px_st (lv' := [.ref a0, va_rf a1, .ref t11]) rfl rfl rfl rfl (by first | rfl | (cases a1 <;> rfl)) rfl rfl ?_
        refine px_ld rfl rfl rfl rfl rfl ?_
        obtain ⟨t14, h0, h⟩ := xs_some h
        obtain ⟨fs, e1, e2⟩ := xgR_some h0
        refine px_get rfl e1 e2 rfl ?_
        refine px_ld rfl rfl rfl rfl rfl ?_
        obtain ⟨t15, h0, h⟩ := xs_some h
        obtain ⟨fs, e1, e2⟩ := xgI_some h0
        refine px_get rfl e1 e2 rfl ?_
        refine px_ld rfl rfl rfl rfl rfl ?_
        obtain ⟨ph16, h0, h⟩ := xs_some h
        obtain ⟨N, f, e1, e2, e3, e4⟩ := xsO_some h0
        subst e3
        refine px_aastO (o := (some t11)) rfl e1 rfl e4 rfl e2 rfl ?_
        exact (r_Names_enter_61 h :)
      | some p10 =>
        refine px_ifnnR rfl rfl rfl ?_
        exact (r_Names_enter_61 h :)
    · replace h := (if_neg hc).symm.trans h
      refine px_ld rfl rfl rfl rfl rfl ?_
      obtain ⟨t17, h0, h⟩ := xs_some h
      obtain ⟨fs, e1, e2⟩ := xgR_some h0
      refine px_get rfl e1 e2 rfl ?_
      cases h
      exact px_aret rfl rfl (Or.inl ⟨_, rfl⟩) rfl rfl ⟨rfl, rfl⟩
  | some p3 =>
    refine px_ifnullR rfl rfl ?_
    refine px_ld rfl rfl rfl rfl rfl ?_
    cases h
    exact px_aret rfl rfl (Or.inl ⟨_, rfl⟩) rfl rfl ⟨rfl, rfl⟩
def f_Link_define_39 (F : Nat) (c : px_CT) (a1 : Option Nat) (a2 : Int32) (a3 : Int32) (a4 : Option Nat) (a5 : Int64) (a7 : Int64) (a9 : Int32) (ph : px_H) : Option (Unit × px_H) :=
  (a1).bind fun p1 =>
  (xpI ph 5 4 p1 a2).bind fun ph2 =>
  (xpI ph2 5 5 p1 a3).bind fun ph3 =>
  (xpN ph3 5 6 p1 a4).bind fun ph4 =>
  (xpJ ph4 5 7 p1 a5).bind fun ph5 =>
  (xpJ ph5 5 8 p1 a7).bind fun ph6 =>
  (xpI ph6 5 9 p1 a9).bind fun ph7 =>
  (xpZ ph7 5 13 p1 (nI 1)).bind fun ph8 =>
  some ((), ph8)
theorem r_Link_define_39 {l : Launch} {g : px_G} {d F : Nat} {a1 : Option Nat} {a2 : Int32} {a3 : Int32} {a4 : Option Nat} {a5 : Int64} {a7 : Int64} {a9 : Int32} {ph : px_H} {r : Unit} {ph' : px_H} (h : f_Link_define_39 F (px_ct g) a1 a2 a3 a4 a5 a7 a9 ph = some (r, ph')) : PW l g (d + 0) m_Link_define 39 [px_u, va_rf a1, .int a2, .int a3, va_rf a4, .long a5, px_u, .long a7, px_u, .int a9] [] ph (px_qV r ph') := by
  unfold f_Link_define_39 at h
  refine px_ld rfl rfl rfl (by first | rfl | (cases a1 <;> rfl)) rfl ?_
  refine px_ld rfl rfl rfl rfl rfl ?_
  obtain ⟨p1, h0, h⟩ := xs_some h
  revert h
  subst h0
  intro h
  obtain ⟨ph2, h0, h⟩ := xs_some h
  obtain ⟨fs, e1, e2, e3⟩ := xpI_some h0
  subst e3
  refine px_put rfl e1 e2 trivial rfl ?_
  refine px_ld rfl rfl rfl rfl rfl ?_
  refine px_ld rfl rfl rfl rfl rfl ?_
  obtain ⟨ph3, h0, h⟩ := xs_some h
  obtain ⟨fs, e1, e2, e3⟩ := xpI_some h0
  subst e3
  refine px_put rfl e1 e2 trivial rfl ?_
  refine px_ld rfl rfl rfl rfl rfl ?_
  refine px_ld rfl rfl rfl (by first | rfl | (cases a4 <;> rfl)) rfl ?_
  obtain ⟨ph4, h0, h⟩ := xs_some h
  obtain ⟨fs, e1, e2, e3⟩ := xpN_some h0
  subst e3
  refine px_put rfl e1 e2 (by first | trivial | (cases a4 <;> trivial)) rfl ?_
  refine px_ld rfl rfl rfl rfl rfl ?_
  refine px_ld rfl rfl rfl rfl rfl ?_
  obtain ⟨ph5, h0, h⟩ := xs_some h
  obtain ⟨fs, e1, e2, e3⟩ := xpJ_some h0
  subst e3
  refine px_put rfl e1 e2 trivial rfl ?_
  refine px_ld rfl rfl rfl rfl rfl ?_
  refine px_ld rfl rfl rfl rfl rfl ?_
  obtain ⟨ph6, h0, h⟩ := xs_some h
  obtain ⟨fs, e1, e2, e3⟩ := xpJ_some h0
  subst e3
  refine px_put rfl e1 e2 trivial rfl ?_
  refine px_ld rfl rfl rfl rfl rfl ?_
  refine px_ld rfl rfl rfl rfl rfl ?_
  obtain ⟨ph7, h0, h⟩ := xs_some h
  obtain ⟨fs, e1, e2, e3⟩ := xpI_some h0
  subst e3
  refine px_put rfl e1 e2 trivial rfl ?_
  refine px_ld rfl rfl rfl rfl rfl ?_
  refine px_ic (k := 1) rfl rfl rfl ?_
  obtain ⟨ph8, h0, h⟩ := xs_some h
  obtain ⟨fs, e1, e2, e3, e4⟩ := xpZ_some h0
  subst e3
  refine px_put rfl e1 e2 e4 rfl ?_
  cases h
  exact px_vret rfl rfl rfl ⟨rfl, rfl⟩
def f_Link_define (F : Nat) (c : px_CT) (a0 : Nat) (a1 : Option Nat) (a2 : Int32) (a3 : Int32) (a4 : Option Nat) (a5 : Int64) (a7 : Int64) (a9 : Int32) (ph : px_H) : Option (Unit × px_H) :=
  (a1).bind fun p1 =>
  (xgI ph 5 4 p1).bind fun t2 =>
  if t2 = 0 then
    (xgI ph 3 15 a0).bind fun t3 =>
    (xgR ph 3 9 a0).bind fun t4 =>
    (xal ph 5 t4).bind fun t5 =>
    if t5 ≤ t3 then
      f_Link_define_39 F c (some p1) a2 a3 a4 a5 a7 a9 ph
    else
      (xgR ph 3 9 a0).bind fun t6 =>
      (xgI ph 3 15 a0).bind fun t7 =>
      (xsO ph 5 5 t6 t7 (some p1)).bind fun ph8 =>
      (xgI ph8 3 15 a0).bind fun t9 =>
      (xpI ph8 3 15 a0 (t9 + (nI 1))).bind fun ph10 =>
      f_Link_define_39 F c (some p1) a2 a3 a4 a5 a7 a9 ph10
  else
    f_Link_define_39 F c (some p1) a2 a3 a4 a5 a7 a9 ph
theorem r_Link_define {l : Launch} {g : px_G} {d F : Nat} {a0 : Nat} {a1 : Option Nat} {a2 : Int32} {a3 : Int32} {a4 : Option Nat} {a5 : Int64} {a7 : Int64} {a9 : Int32} {ph : px_H} {r : Unit} {ph' : px_H} (h : f_Link_define F (px_ct g) a0 a1 a2 a3 a4 a5 a7 a9 ph = some (r, ph')) : PW l g (d + 0) m_Link_define 0 [.ref a0, va_rf a1, .int a2, .int a3, va_rf a4, .long a5, px_u, .long a7, px_u, .int a9] [] ph (px_qV r ph') := by
  unfold f_Link_define at h
  refine px_ld rfl rfl rfl (by first | rfl | (cases a1 <;> rfl)) rfl ?_
  obtain ⟨p1, h0, h⟩ := xs_some h
  revert h
  subst h0
  intro h
  obtain ⟨t2, h0, h⟩ := xs_some h
  obtain ⟨fs, e1, e2⟩ := xgI_some h0
  refine px_get rfl e1 e2 rfl ?_
  refine px_ifne rfl rfl rfl (fun hc => ?_) (fun hc => ?_)
  · replace h := (if_neg hc).symm.trans h
    refine px_forget (n := 0) (lv' := [_, _, _, _, _, _, _, _, _, _]) rfl ?_
    exact (r_Link_define_39 h :)
  · replace h := (if_pos hc).symm.trans h
    refine px_ld rfl rfl rfl rfl rfl ?_
    obtain ⟨t3, h0, h⟩ := xs_some h
    obtain ⟨fs, e1, e2⟩ := xgI_some h0
    refine px_get rfl e1 e2 rfl ?_
    refine px_ld rfl rfl rfl rfl rfl ?_
    obtain ⟨t4, h0, h⟩ := xs_some h
    obtain ⟨fs, e1, e2⟩ := xgR_some h0
    refine px_get rfl e1 e2 rfl ?_
    obtain ⟨t5, h0, h⟩ := xs_some h
    obtain ⟨x, e1, e3⟩ := xal_some h0
    subst e3
    refine px_alen rfl e1 rfl rfl ?_
    refine px_icge rfl rfl rfl (fun hc => ?_) (fun hc => ?_)
    · replace h := (if_pos hc).symm.trans h
      refine px_forget (n := 0) (lv' := [_, _, _, _, _, _, _, _, _, _]) rfl ?_
      exact (r_Link_define_39 h :)
    · replace h := (if_neg hc).symm.trans h
      refine px_ld rfl rfl rfl rfl rfl ?_
      obtain ⟨t6, h0, h⟩ := xs_some h
      obtain ⟨fs, e1, e2⟩ := xgR_some h0
      refine px_get rfl e1 e2 rfl ?_
      refine px_ld rfl rfl rfl rfl rfl ?_
      obtain ⟨t7, h0, h⟩ := xs_some h
      obtain ⟨fs, e1, e2⟩ := xgI_some h0
      refine px_get rfl e1 e2 rfl ?_
      refine px_ld rfl rfl rfl rfl rfl ?_
      obtain ⟨ph8, h0, h⟩ := xs_some h
      obtain ⟨N, f, e1, e2, e3, e4⟩ := xsO_some h0
      subst e3
      refine px_aastO (o := (some p1)) rfl e1 rfl e4 rfl e2 rfl ?_
      refine px_ld rfl rfl rfl rfl rfl ?_
      refine px_alu rfl rfl rfl ?_
      obtain ⟨t9, h0, h⟩ := xs_some h
      obtain ⟨fs, e1, e2⟩ := xgI_some h0
      refine px_get rfl e1 e2 rfl ?_
      refine px_ic (k := 1) rfl rfl rfl ?_
      refine px_alu rfl rfl rfl ?_
      obtain ⟨ph10, h0, h⟩ := xs_some h
      obtain ⟨fs, e1, e2, e3⟩ := xpI_some h0
      subst e3
      refine px_put rfl e1 e2 trivial rfl ?_
      refine px_forget (n := 0) (lv' := [_, _, _, _, _, _, _, _, _, _]) rfl ?_
      exact (r_Link_define_39 h :)
def f_Link_begin_161 (F : Nat) (c : px_CT) (ph : px_H) : Option (Unit × px_H) :=
  some ((), ph)
theorem r_Link_begin_161 {l : Launch} {g : px_G} {d F : Nat} {ph : px_H} {r : Unit} {ph' : px_H} (h : f_Link_begin_161 F (px_ct g) ph = some (r, ph')) : PW l g (d + 3) m_Link_begin 161 [px_u, px_u, px_u] [] ph (px_qV r ph') := by
  unfold f_Link_begin_161 at h
  cases h
  exact px_vret rfl rfl rfl ⟨rfl, rfl⟩
def f_Link_begin_125 (F : Nat) (c : px_CT) : Nat → Nat → Int32 → px_H → Option (Unit × px_H)
  | 0, _, _, _ => none
  | n + 1, a0, a1, ph =>
    (xgR ph 3 2 a0).bind fun t1 =>
    (xgI ph 6 2 t1).bind fun t2 =>
    if t2 ≤ a1 then
      f_Link_begin_161 F c ph
    else
      (xgR ph 3 3 a0).bind fun t3 =>
      (xgR ph 3 2 a0).bind fun t4 =>
      (xo ph 6 t4).bind fun _ =>
      xb (f_Names_at F c t4 a1 ph) fun t5 ph6 =>
      (xo ph6 6 t3).bind fun _ =>
      xb (f_Names_enter F c t3 t5 ph6) fun t7 ph8 =>
      (t7).bind fun p9 =>
      (xpZ ph8 5 11 p9 (nI 1)).bind fun ph10 =>
      f_Link_begin_125 F c n a0 (a1 + nI 1) ph10
theorem r_Link_begin_125 {l : Launch} {g : px_G} {d F : Nat} : ∀ (n : Nat) {a0 : Nat} {a1 : Int32} {ph : px_H} {r : Unit} {ph' : px_H}, f_Link_begin_125 F (px_ct g) n a0 a1 ph = some (r, ph') → PW l g (d + 3) m_Link_begin 125 [.ref a0, .int a1, px_u] [] ph (px_qV r ph') := by
  intro n
  induction n with
  | zero => intro _ _ _ _ _ h; cases h
  | succ n ih =>
    intro a0 a1 ph r ph' h
    unfold f_Link_begin_125 at h
    refine px_ld rfl rfl rfl rfl rfl ?_
    refine px_ld rfl rfl rfl rfl rfl ?_
    obtain ⟨t1, h0, h⟩ := xs_some h
    obtain ⟨fs, e1, e2⟩ := xgR_some h0
    refine px_get rfl e1 e2 rfl ?_
    obtain ⟨t2, h0, h⟩ := xs_some h
    obtain ⟨fs, e1, e2⟩ := xgI_some h0
    refine px_get rfl e1 e2 rfl ?_
    refine px_icge rfl (by decide) rfl (fun hc => ?_) (fun hc => ?_)
    · replace h := (if_pos hc).symm.trans h
      refine px_forget (n := 0) (lv' := [_, _, _]) rfl ?_
      refine px_forget (n := 1) (lv' := [_, _, _]) rfl ?_
      exact (r_Link_begin_161 h :)
    · replace h := (if_neg hc).symm.trans h
      refine px_ld rfl rfl rfl rfl rfl ?_
      obtain ⟨t3, h0, h⟩ := xs_some h
      obtain ⟨fs, e1, e2⟩ := xgR_some h0
      refine px_get rfl e1 e2 rfl ?_
      refine px_ld rfl rfl rfl rfl rfl ?_
      obtain ⟨t4, h0, h⟩ := xs_some h
      obtain ⟨fs, e1, e2⟩ := xgR_some h0
      refine px_get rfl e1 e2 rfl ?_
      refine px_ld rfl rfl rfl rfl rfl ?_
      obtain ⟨fs, h0, h⟩ := xs_some h
      have e1 := xo_some h0
      obtain ⟨t5, ph6, h0, h⟩ := xb_some h
      refine px_cV1 rfl rfl e1 rfl rfl rfl rfl rfl rfl rfl (r_Names_at h0 :) (fun _ _ q => nomatch q.2) (fun r ph' q => ?_)
      obtain ⟨rfl, q⟩ := q
      cases q
      obtain ⟨fs, h0, h⟩ := xs_some h
      have e1 := xo_some h0
      obtain ⟨t7, ph8, h0, h⟩ := xb_some h
      refine px_cV1 (lv0 := [.ref t3, va_rf t5, px_u]) rfl rfl e1 rfl rfl rfl (by first | rfl | (cases t5 <;> rfl)) rfl (by first | rfl | (cases t5 <;> rfl)) rfl (r_Names_enter h0 :) (fun _ _ q => nomatch q.2) (fun r ph' q => ?_)
      obtain ⟨rfl, q⟩ := q
      cases q
      refine px_ic (k := 1) rfl rfl rfl ?_
      obtain ⟨p9, h0, h⟩ := xs_some h
      revert h
      subst h0
      intro h
      obtain ⟨ph10, h0, h⟩ := xs_some h
      obtain ⟨fs, e1, e2, e3, e4⟩ := xpZ_some h0
      subst e3
      refine px_put rfl e1 e2 e4 rfl ?_
      refine px_iinc (lv' := [_, _, _]) rfl rfl rfl rfl rfl rfl ?_
      refine px_goto rfl (by decide) rfl ?_
      exact (ih h :)
def f_Link_begin_123 (F : Nat) (c : px_CT) (a0 : Nat) (ph : px_H) : Option (Unit × px_H) :=
  f_Link_begin_125 F c F a0 (nI 0) ph
theorem r_Link_begin_123 {l : Launch} {g : px_G} {d F : Nat} {a0 : Nat} {ph : px_H} {r : Unit} {ph' : px_H} (h : f_Link_begin_123 F (px_ct g) a0 ph = some (r, ph')) : PW l g (d + 3) m_Link_begin 123 [.ref a0, px_u, px_u] [] ph (px_qV r ph') := by
  unfold f_Link_begin_123 at h
  refine px_ic (k := 0) rfl rfl rfl ?_
  refine px_st (lv' := [_, _, _]) rfl rfl rfl rfl rfl rfl rfl ?_
  exact (r_Link_begin_125 _ h :)
def f_Link_begin_75 (F : Nat) (c : px_CT) : Nat → Nat → Int32 → px_H → Option (Unit × px_H)
  | 0, _, _, _ => none
  | n + 1, a0, a1, ph =>
    (xgR ph 3 1 a0).bind fun t1 =>
    (xgI ph 6 2 t1).bind fun t2 =>
    if t2 ≤ a1 then
      f_Link_begin_123 F c a0 ph
    else
      (xgR ph 3 1 a0).bind fun t3 =>
      (xo ph 6 t3).bind fun _ =>
      xb (f_Names_at F c t3 a1 ph) fun t4 ph5 =>
      (xgR ph5 3 3 a0).bind fun t6 =>
      (xo ph5 6 t6).bind fun _ =>
      xb (f_Names_enter F c t6 t4 ph5) fun t7 ph8 =>
      (t4).bind fun p9 =>
      (xgJ ph8 5 7 p9).bind fun t10 =>
      (xo ph8 3 a0).bind fun _ =>
      xb (f_Link_define F c a0 t7 (nI 3) (nI 2) none t10 (lN 0) (nI 16) ph8) fun _ ph11 =>
      f_Link_begin_75 F c n a0 (a1 + nI 1) ph11
theorem r_Link_begin_75 {l : Launch} {g : px_G} {d F : Nat} : ∀ (n : Nat) {a0 : Nat} {a1 : Int32} {ph : px_H} {r : Unit} {ph' : px_H}, f_Link_begin_75 F (px_ct g) n a0 a1 ph = some (r, ph') → PW l g (d + 3) m_Link_begin 75 [.ref a0, .int a1, px_u] [] ph (px_qV r ph') := by
  intro n
  induction n with
  | zero => intro _ _ _ _ _ h; cases h
  | succ n ih =>
    intro a0 a1 ph r ph' h
    unfold f_Link_begin_75 at h
    refine px_ld rfl rfl rfl rfl rfl ?_
    refine px_ld rfl rfl rfl rfl rfl ?_
    obtain ⟨t1, h0, h⟩ := xs_some h
    obtain ⟨fs, e1, e2⟩ := xgR_some h0
    refine px_get rfl e1 e2 rfl ?_
    obtain ⟨t2, h0, h⟩ := xs_some h
    obtain ⟨fs, e1, e2⟩ := xgI_some h0
    refine px_get rfl e1 e2 rfl ?_
    refine px_icge rfl (by decide) rfl (fun hc => ?_) (fun hc => ?_)
    · replace h := (if_pos hc).symm.trans h
      refine px_forget (n := 1) (lv' := [_, _, _]) rfl ?_
      exact (r_Link_begin_123 h :)
    · replace h := (if_neg hc).symm.trans h
      refine px_ld rfl rfl rfl rfl rfl ?_
      obtain ⟨t3, h0, h⟩ := xs_some h
      obtain ⟨fs, e1, e2⟩ := xgR_some h0
      refine px_get rfl e1 e2 rfl ?_
      refine px_ld rfl rfl rfl rfl rfl ?_
      obtain ⟨fs, h0, h⟩ := xs_some h
      have e1 := xo_some h0
      obtain ⟨t4, ph5, h0, h⟩ := xb_some h
      refine px_cV1 rfl rfl e1 rfl rfl rfl rfl rfl rfl rfl (r_Names_at h0 :) (fun _ _ q => nomatch q.2) (fun r ph' q => ?_)
      obtain ⟨rfl, q⟩ := q
      cases q
      refine px_st (lv' := [.ref a0, .int a1, va_rf t4]) rfl rfl (by first | rfl | (cases t4 <;> rfl)) (by first | rfl | (cases t4 <;> rfl)) rfl (by first | rfl | (cases t4 <;> rfl)) rfl ?_
      refine px_ld rfl rfl rfl rfl rfl ?_
      refine px_ld rfl rfl rfl rfl rfl ?_
      obtain ⟨t6, h0, h⟩ := xs_some h
      obtain ⟨fs, e1, e2⟩ := xgR_some h0
      refine px_get rfl e1 e2 rfl ?_
      refine px_ld rfl rfl rfl (by first | rfl | (cases t4 <;> rfl)) rfl ?_
      obtain ⟨fs, h0, h⟩ := xs_some h
      have e1 := xo_some h0
      obtain ⟨t7, ph8, h0, h⟩ := xb_some h
      refine px_cV1 (lv0 := [.ref t6, va_rf t4, px_u]) rfl rfl e1 rfl rfl rfl (by first | rfl | (cases t4 <;> rfl)) rfl (by first | rfl | (cases t4 <;> rfl)) rfl (r_Names_enter h0 :) (fun _ _ q => nomatch q.2) (fun r ph' q => ?_)
      obtain ⟨rfl, q⟩ := q
      cases q
      refine px_ic (k := 3) rfl rfl rfl ?_
      refine px_ic (k := 2) rfl rfl rfl ?_
      refine px_alu rfl rfl rfl ?_
      refine px_ld rfl rfl rfl (by first | rfl | (cases t4 <;> rfl)) rfl ?_
      obtain ⟨p9, h0, h⟩ := xs_some h
      revert h
      subst h0
      intro h
      obtain ⟨t10, h0, h⟩ := xs_some h
      obtain ⟨fs, e1, e2⟩ := xgJ_some h0
      refine px_get rfl e1 e2 rfl ?_
      refine px_alu rfl rfl rfl ?_
      refine px_ic (k := 16) rfl rfl rfl ?_
      obtain ⟨fs, h0, h⟩ := xs_some h
      have e1 := xo_some h0
      obtain ⟨u0, ph11, h0, h⟩ := xb_some h
      refine px_cV7 (lv0 := [.ref a0, va_rf t7, .int (nI 3), .int (nI 2), va_rf none, .long t10, px_u, .long (lN 0), px_u, .int (nI 16)]) rfl rfl e1 rfl rfl rfl (by first | rfl | (cases t7 <;> rfl) | (cases none <;> rfl) | (cases t7 <;> cases none <;> rfl)) rfl (by first | rfl | (cases t7 <;> rfl) | (cases none <;> rfl) | (cases t7 <;> cases none <;> rfl)) rfl (r_Link_define h0 :) (fun _ _ q => nomatch q.2) (fun r ph' q => ?_)
      obtain ⟨rfl, q⟩ := q
      cases q
      refine px_iinc (lv' := [_, _, _]) rfl rfl rfl rfl rfl rfl ?_
      refine px_goto rfl (by decide) rfl ?_
      refine px_forget (n := 2) (lv' := [_, _, _]) rfl ?_
      exact (ih h :)
def f_Link_begin_37 (F : Nat) (c : px_CT) (a0 : Nat) (ph : px_H) : Option (Unit × px_H) :=
  (xpI ph 3 14 a0 (nI 0)).bind fun ph1 =>
  (xpI ph1 3 15 a0 (nI 0)).bind fun ph2 =>
  (xpI ph2 3 17 a0 (nI 0)).bind fun ph3 =>
  (xpJ ph3 3 19 a0 (lN 0)).bind fun ph4 =>
  (xgR ph4 3 12 a0).bind fun t5 =>
  (xpN ph4 3 13 a0 (some t5)).bind fun ph6 =>
  (xgR ph6 3 3 a0).bind fun t7 =>
  (xpI ph6 6 2 t7 (nI 0)).bind fun ph8 =>
  f_Link_begin_75 F c F a0 (nI 0) ph8
theorem r_Link_begin_37 {l : Launch} {g : px_G} {d F : Nat} {a0 : Nat} {ph : px_H} {r : Unit} {ph' : px_H} (h : f_Link_begin_37 F (px_ct g) a0 ph = some (r, ph')) : PW l g (d + 3) m_Link_begin 37 [.ref a0, px_u, px_u] [] ph (px_qV r ph') := by
  unfold f_Link_begin_37 at h
  refine px_ld rfl rfl rfl rfl rfl ?_
  refine px_ic (k := 0) rfl rfl rfl ?_
  obtain ⟨ph1, h0, h⟩ := xs_some h
  obtain ⟨fs, e1, e2, e3⟩ := xpI_some h0
  subst e3
  refine px_put rfl e1 e2 trivial rfl ?_
  refine px_ld rfl rfl rfl rfl rfl ?_
  refine px_ic (k := 0) rfl rfl rfl ?_
  obtain ⟨ph2, h0, h⟩ := xs_some h
  obtain ⟨fs, e1, e2, e3⟩ := xpI_some h0
  subst e3
  refine px_put rfl e1 e2 trivial rfl ?_
  refine px_ld rfl rfl rfl rfl rfl ?_
  refine px_ic (k := 0) rfl rfl rfl ?_
  obtain ⟨ph3, h0, h⟩ := xs_some h
  obtain ⟨fs, e1, e2, e3⟩ := xpI_some h0
  subst e3
  refine px_put rfl e1 e2 trivial rfl ?_
  refine px_ld rfl rfl rfl rfl rfl ?_
  refine px_alu rfl rfl rfl ?_
  obtain ⟨ph4, h0, h⟩ := xs_some h
  obtain ⟨fs, e1, e2, e3⟩ := xpJ_some h0
  subst e3
  refine px_put rfl e1 e2 trivial rfl ?_
  refine px_ld rfl rfl rfl rfl rfl ?_
  refine px_ld rfl rfl rfl rfl rfl ?_
  obtain ⟨t5, h0, h⟩ := xs_some h
  obtain ⟨fs, e1, e2⟩ := xgR_some h0
  refine px_get rfl e1 e2 rfl ?_
  obtain ⟨ph6, h0, h⟩ := xs_some h
  obtain ⟨fs, e1, e2, e3⟩ := xpN_some h0
  subst e3
  refine px_put rfl e1 e2 trivial rfl ?_
  refine px_ld rfl rfl rfl rfl rfl ?_
  obtain ⟨t7, h0, h⟩ := xs_some h
  obtain ⟨fs, e1, e2⟩ := xgR_some h0
  refine px_get rfl e1 e2 rfl ?_
  refine px_ic (k := 0) rfl rfl rfl ?_
  obtain ⟨ph8, h0, h⟩ := xs_some h
  obtain ⟨fs, e1, e2, e3⟩ := xpI_some h0
  subst e3
  refine px_put rfl e1 e2 trivial rfl ?_
  refine px_ic (k := 0) rfl rfl rfl ?_
  refine px_st (lv' := [_, _, _]) rfl rfl rfl rfl rfl rfl rfl ?_
  exact (r_Link_begin_75 _ h :)
def f_Link_begin_2 (F : Nat) (c : px_CT) : Nat → Nat → Int32 → px_H → Option (Unit × px_H)
  | 0, _, _, _ => none
  | n + 1, a0, a1, ph =>
    (xgR ph 3 0 a0).bind fun t1 =>
    (xal ph 4 t1).bind fun t2 =>
    if t2 ≤ a1 then
      f_Link_begin_37 F c a0 ph
    else
      (xgR ph 3 0 a0).bind fun t3 =>
      (xaN ph 4 t3 a1).bind fun t4 =>
      (t4).bind fun p5 =>
      (xpZ ph 7 15 p5 (nI 0)).bind fun ph6 =>
      (xgR ph6 3 0 a0).bind fun t7 =>
      (xaN ph6 4 t7 a1).bind fun t8 =>
      (t8).bind fun p9 =>
      (xpI ph6 7 16 p9 (nI 0)).bind fun ph10 =>
      f_Link_begin_2 F c n a0 (a1 + nI 1) ph10
theorem r_Link_begin_2 {l : Launch} {g : px_G} {d F : Nat} : ∀ (n : Nat) {a0 : Nat} {a1 : Int32} {ph : px_H} {r : Unit} {ph' : px_H}, f_Link_begin_2 F (px_ct g) n a0 a1 ph = some (r, ph') → PW l g (d + 3) m_Link_begin 2 [.ref a0, .int a1, px_u] [] ph (px_qV r ph') := by
  intro n
  induction n with
  | zero => intro _ _ _ _ _ h; cases h
  | succ n ih =>
    intro a0 a1 ph r ph' h
    unfold f_Link_begin_2 at h
    refine px_ld rfl rfl rfl rfl rfl ?_
    refine px_ld rfl rfl rfl rfl rfl ?_
    obtain ⟨t1, h0, h⟩ := xs_some h
    obtain ⟨fs, e1, e2⟩ := xgR_some h0
    refine px_get rfl e1 e2 rfl ?_
    obtain ⟨t2, h0, h⟩ := xs_some h
    obtain ⟨x, e1, e3⟩ := xal_some h0
    subst e3
    refine px_alen rfl e1 rfl rfl ?_
    refine px_icge rfl (by decide) rfl (fun hc => ?_) (fun hc => ?_)
    · replace h := (if_pos hc).symm.trans h
      refine px_forget (n := 1) (lv' := [_, _, _]) rfl ?_
      exact (r_Link_begin_37 h :)
    · replace h := (if_neg hc).symm.trans h
      refine px_ld rfl rfl rfl rfl rfl ?_
      obtain ⟨t3, h0, h⟩ := xs_some h
      obtain ⟨fs, e1, e2⟩ := xgR_some h0
      refine px_get rfl e1 e2 rfl ?_
      refine px_ld rfl rfl rfl rfl rfl ?_
      obtain ⟨t4, h0, h⟩ := xs_some h
      obtain ⟨N, f, e1, e2, e3⟩ := xaN_some h0
      refine px_aaldO rfl e1 rfl e2 e3 rfl ?_
      refine px_ic (k := 0) rfl rfl rfl ?_
      obtain ⟨p5, h0, h⟩ := xs_some h
      revert h
      subst h0
      intro h
      obtain ⟨ph6, h0, h⟩ := xs_some h
      obtain ⟨fs, e1, e2, e3, e4⟩ := xpZ_some h0
      subst e3
      refine px_put rfl e1 e2 e4 rfl ?_
      refine px_ld rfl rfl rfl rfl rfl ?_
      obtain ⟨t7, h0, h⟩ := xs_some h
      obtain ⟨fs, e1, e2⟩ := xgR_some h0
      refine px_get rfl e1 e2 rfl ?_
      refine px_ld rfl rfl rfl rfl rfl ?_
      obtain ⟨t8, h0, h⟩ := xs_some h
      obtain ⟨N, f, e1, e2, e3⟩ := xaN_some h0
      refine px_aaldO rfl e1 rfl e2 e3 rfl ?_
      refine px_ic (k := 0) rfl rfl rfl ?_
      obtain ⟨p9, h0, h⟩ := xs_some h
      revert h
      subst h0
      intro h
      obtain ⟨ph10, h0, h⟩ := xs_some h
      obtain ⟨fs, e1, e2, e3⟩ := xpI_some h0
      subst e3
      refine px_put rfl e1 e2 trivial rfl ?_
      refine px_iinc (lv' := [_, _, _]) rfl rfl rfl rfl rfl rfl ?_
      refine px_goto rfl (by decide) rfl ?_
      exact (ih h :)
def f_Link_begin (F : Nat) (c : px_CT) (a0 : Nat) (ph : px_H) : Option (Unit × px_H) :=
  f_Link_begin_2 F c F a0 (nI 0) ph
theorem r_Link_begin {l : Launch} {g : px_G} {d F : Nat} {a0 : Nat} {ph : px_H} {r : Unit} {ph' : px_H} (h : f_Link_begin F (px_ct g) a0 ph = some (r, ph')) : PW l g (d + 3) m_Link_begin 0 [.ref a0, px_u, px_u] [] ph (px_qV r ph') := by
  unfold f_Link_begin at h
  refine px_ic (k := 0) rfl rfl rfl ?_
  refine px_st (lv' := [_, _, _]) rfl rfl rfl rfl rfl rfl rfl ?_
  exact (r_Link_begin_2 _ h :)
def f_Link_part_33 (F : Nat) (c : px_CT) (s0 : Option Nat) (ph : px_H) : Option (Option Nat × px_H) :=
  some (s0, ph)
theorem r_Link_part_33 {l : Launch} {g : px_G} {d F : Nat} {s0 : Option Nat} {ph : px_H} {r : Option Nat} {ph' : px_H} (h : f_Link_part_33 F (px_ct g) s0 ph = some (r, ph')) : PW l g (d + 0) m_Link_part 33 [px_u, px_u, px_u, px_u] [va_rf s0] ph (px_qN r ph') := by
  unfold f_Link_part_33 at h
  cases h
  exact px_aret rfl rfl (Or.inl ⟨_, rfl⟩) (by first | rfl | (cases s0 <;> rfl) | (cases r <;> rfl) | (cases s0 <;> cases r <;> rfl)) rfl ⟨rfl, rfl⟩
def f_Link_part_29 (F : Nat) (c : px_CT) (a0 : Nat) (ph : px_H) : Option (Option Nat × px_H) :=
  (xgR ph 3 5 a0).bind fun t1 =>
  f_Link_part_33 F c (some t1) ph
theorem r_Link_part_29 {l : Launch} {g : px_G} {d F : Nat} {a0 : Nat} {ph : px_H} {r : Option Nat} {ph' : px_H} (h : f_Link_part_29 F (px_ct g) a0 ph = some (r, ph')) : PW l g (d + 0) m_Link_part 29 [.ref a0, px_u, px_u, px_u] [] ph (px_qN r ph') := by
  unfold f_Link_part_29 at h
  refine px_ld rfl rfl rfl rfl rfl ?_
  obtain ⟨t1, h0, h⟩ := xs_some h
  obtain ⟨fs, e1, e2⟩ := xgR_some h0
  refine px_get rfl e1 e2 rfl ?_
  refine px_forget (n := 0) (lv' := [_, _, _, _]) rfl ?_
  exact (r_Link_part_33 h :)
def f_Link_part (F : Nat) (c : px_CT) (a0 : Nat) (a1 : Int32) (a2 : Int32) (ph : px_H) : Option (Option Nat × px_H) :=
  if ((a1 * (nI 24)) + a2) < 0 then
    f_Link_part_29 F c a0 ph
  else
    (xgR ph 3 4 a0).bind fun t1 =>
    (xal ph 6 t1).bind fun t2 =>
    if t2 ≤ ((a1 * (nI 24)) + a2) then
      f_Link_part_29 F c a0 ph
    else
      (xgR ph 3 4 a0).bind fun t3 =>
      (xaN ph 6 t3 ((a1 * (nI 24)) + a2)).bind fun t4 =>
      f_Link_part_33 F c t4 ph
theorem r_Link_part {l : Launch} {g : px_G} {d F : Nat} {a0 : Nat} {a1 : Int32} {a2 : Int32} {ph : px_H} {r : Option Nat} {ph' : px_H} (h : f_Link_part F (px_ct g) a0 a1 a2 ph = some (r, ph')) : PW l g (d + 0) m_Link_part 0 [.ref a0, .int a1, .int a2, px_u] [] ph (px_qN r ph') := by
  unfold f_Link_part at h
  refine px_ld rfl rfl rfl rfl rfl ?_
  refine px_ic (k := 24) rfl rfl rfl ?_
  refine px_alu rfl rfl rfl ?_
  refine px_ld rfl rfl rfl rfl rfl ?_
  refine px_alu rfl rfl rfl ?_
  refine px_st (lv' := [_, _, _, _]) rfl rfl rfl rfl rfl rfl rfl ?_
  refine px_ld rfl rfl rfl rfl rfl ?_
  refine px_iflt rfl rfl rfl (fun hc => ?_) (fun hc => ?_)
  · replace h := (if_pos hc).symm.trans h
    refine px_forget (n := 1) (lv' := [_, _, _, _]) rfl ?_
    refine px_forget (n := 2) (lv' := [_, _, _, _]) rfl ?_
    refine px_forget (n := 3) (lv' := [_, _, _, _]) rfl ?_
    exact (r_Link_part_29 h :)
  · replace h := (if_neg hc).symm.trans h
    refine px_ld rfl rfl rfl rfl rfl ?_
    refine px_ld rfl rfl rfl rfl rfl ?_
    obtain ⟨t1, h0, h⟩ := xs_some h
    obtain ⟨fs, e1, e2⟩ := xgR_some h0
    refine px_get rfl e1 e2 rfl ?_
    obtain ⟨t2, h0, h⟩ := xs_some h
    obtain ⟨x, e1, e3⟩ := xal_some h0
    subst e3
    refine px_alen rfl e1 rfl rfl ?_
    refine px_icge rfl rfl rfl (fun hc => ?_) (fun hc => ?_)
    · replace h := (if_pos hc).symm.trans h
      refine px_forget (n := 1) (lv' := [_, _, _, _]) rfl ?_
      refine px_forget (n := 2) (lv' := [_, _, _, _]) rfl ?_
      refine px_forget (n := 3) (lv' := [_, _, _, _]) rfl ?_
      exact (r_Link_part_29 h :)
    · replace h := (if_neg hc).symm.trans h
      refine px_ld rfl rfl rfl rfl rfl ?_
      obtain ⟨t3, h0, h⟩ := xs_some h
      obtain ⟨fs, e1, e2⟩ := xgR_some h0
      refine px_get rfl e1 e2 rfl ?_
      refine px_ld rfl rfl rfl rfl rfl ?_
      obtain ⟨t4, h0, h⟩ := xs_some h
      obtain ⟨N, f, e1, e2, e3⟩ := xaN_some h0
      refine px_aaldO rfl e1 rfl e2 e3 rfl ?_
      refine px_goto rfl rfl rfl ?_
      refine px_forget (n := 0) (lv' := [_, _, _, _]) rfl ?_
      refine px_forget (n := 1) (lv' := [_, _, _, _]) rfl ?_
      refine px_forget (n := 2) (lv' := [_, _, _, _]) rfl ?_
      refine px_forget (n := 3) (lv' := [_, _, _, _]) rfl ?_
      exact (r_Link_part_33 h :)
def f_ObjectFile_groupOf_38 (F : Nat) (c : px_CT) (s0 : Int32) (ph : px_H) : Option (Int32 × px_H) :=
  some (s0, ph)
theorem r_ObjectFile_groupOf_38 {l : Launch} {g : px_G} {d F : Nat} {s0 : Int32} {ph : px_H} {r : Int32} {ph' : px_H} (h : f_ObjectFile_groupOf_38 F (px_ct g) s0 ph = some (r, ph')) : PW l g (d + 0) m_ObjectFile_groupOf 38 [px_u, px_u, px_u] [.int s0] ph (px_qI r ph') := by
  unfold f_ObjectFile_groupOf_38 at h
  cases h
  exact px_iret rfl (Or.inl rfl) rfl ⟨rfl, rfl⟩
def f_ObjectFile_groupOf_37 (F : Nat) (c : px_CT) (ph : px_H) : Option (Int32 × px_H) :=
  f_ObjectFile_groupOf_38 F c (Int32.ofInt (-1)) ph
theorem r_ObjectFile_groupOf_37 {l : Launch} {g : px_G} {d F : Nat} {ph : px_H} {r : Int32} {ph' : px_H} (h : f_ObjectFile_groupOf_37 F (px_ct g) ph = some (r, ph')) : PW l g (d + 0) m_ObjectFile_groupOf 37 [px_u, px_u, px_u] [] ph (px_qI r ph') := by
  unfold f_ObjectFile_groupOf_37 at h
  refine px_alu rfl rfl rfl ?_
  exact (r_ObjectFile_groupOf_38 h :)
def f_ObjectFile_groupOf (F : Nat) (c : px_CT) (a0 : Nat) (a1 : Int64) (ph : px_H) : Option (Int32 × px_H) :=
  if a1 < (lN 0) then
    f_ObjectFile_groupOf_37 F c ph
  else
    (xgI ph 7 8 a0).bind fun t1 =>
    if t1.toInt64 ≤ a1 then
      f_ObjectFile_groupOf_37 F c ph
    else
      (xgR ph 7 3 a0).bind fun t2 =>
      (xal ph 0 t2).bind fun t3 =>
      if t3.toInt64 ≤ a1 then
        f_ObjectFile_groupOf_37 F c ph
      else
        (xgR ph 7 3 a0).bind fun t4 =>
        (xaI ph 0 t4 a1.toInt32).bind fun t5 =>
        f_ObjectFile_groupOf_38 F c t5 ph
theorem r_ObjectFile_groupOf {l : Launch} {g : px_G} {d F : Nat} {a0 : Nat} {a1 : Int64} {ph : px_H} {r : Int32} {ph' : px_H} (h : f_ObjectFile_groupOf F (px_ct g) a0 a1 ph = some (r, ph')) : PW l g (d + 0) m_ObjectFile_groupOf 0 [.ref a0, .long a1, px_u] [] ph (px_qI r ph') := by
  unfold f_ObjectFile_groupOf at h
  refine px_ld rfl rfl rfl rfl rfl ?_
  refine px_alu rfl rfl rfl ?_
  refine px_alu rfl rfl rfl ?_
  refine px_iflt rfl rfl rfl (fun hc => ?_) (fun hc => ?_)
  · replace h := (if_pos ((lg_cmp_lt _ _).mp hc)).symm.trans h
    refine px_forget (n := 0) (lv' := [_, _, _]) rfl ?_
    refine px_forget (n := 1) (lv' := [_, _, _]) rfl ?_
    exact (r_ObjectFile_groupOf_37 h :)
  · replace h := (if_neg (fun q => hc ((lg_cmp_lt _ _).mpr q))).symm.trans h
    refine px_ld rfl rfl rfl rfl rfl ?_
    refine px_ld rfl rfl rfl rfl rfl ?_
    obtain ⟨t1, h0, h⟩ := xs_some h
    obtain ⟨fs, e1, e2⟩ := xgI_some h0
    refine px_get rfl e1 e2 rfl ?_
    refine px_alu rfl rfl rfl ?_
    refine px_alu rfl rfl rfl ?_
    refine px_ifge rfl rfl rfl (fun hc => ?_) (fun hc => ?_)
    · replace h := (if_pos ((lg_cmp_ge _ _).mp hc)).symm.trans h
      refine px_forget (n := 0) (lv' := [_, _, _]) rfl ?_
      refine px_forget (n := 1) (lv' := [_, _, _]) rfl ?_
      exact (r_ObjectFile_groupOf_37 h :)
    · replace h := (if_neg (fun q => hc ((lg_cmp_ge _ _).mpr q))).symm.trans h
      refine px_ld rfl rfl rfl rfl rfl ?_
      refine px_ld rfl rfl rfl rfl rfl ?_
      obtain ⟨t2, h0, h⟩ := xs_some h
      obtain ⟨fs, e1, e2⟩ := xgR_some h0
      refine px_get rfl e1 e2 rfl ?_
      obtain ⟨t3, h0, h⟩ := xs_some h
      obtain ⟨x, e1, e3⟩ := xal_some h0
      subst e3
      refine px_alen rfl e1 rfl rfl ?_
      refine px_alu rfl rfl rfl ?_
      refine px_alu rfl rfl rfl ?_
      refine px_ifge rfl rfl rfl (fun hc => ?_) (fun hc => ?_)
      · replace h := (if_pos ((lg_cmp_ge _ _).mp hc)).symm.trans h
        refine px_forget (n := 0) (lv' := [_, _, _]) rfl ?_
        refine px_forget (n := 1) (lv' := [_, _, _]) rfl ?_
        exact (r_ObjectFile_groupOf_37 h :)
      · replace h := (if_neg (fun q => hc ((lg_cmp_ge _ _).mpr q))).symm.trans h
        refine px_ld rfl rfl rfl rfl rfl ?_
        obtain ⟨t4, h0, h⟩ := xs_some h
        obtain ⟨fs, e1, e2⟩ := xgR_some h0
        refine px_get rfl e1 e2 rfl ?_
        refine px_ld rfl rfl rfl rfl rfl ?_
        refine px_alu rfl rfl rfl ?_
        obtain ⟨t5, h0, h⟩ := xs_some h
        obtain ⟨N, f, e1, e2, e3⟩ := xaI_some h0
        subst e3
        refine px_bald rfl e1 rfl e2 rfl ?_
        refine px_goto rfl rfl rfl ?_
        refine px_forget (n := 0) (lv' := [_, _, _]) rfl ?_
        refine px_forget (n := 1) (lv' := [_, _, _]) rfl ?_
        exact (r_ObjectFile_groupOf_38 h :)
def f_ObjectFile_num_85 (F : Nat) (c : px_CT) (a4 : Int64) (ph : px_H) : Option (Int64 × px_H) :=
  some (a4, ph)
theorem r_ObjectFile_num_85 {l : Launch} {g : px_G} {d F : Nat} {a4 : Int64} {ph : px_H} {r : Int64} {ph' : px_H} (h : f_ObjectFile_num_85 F (px_ct g) a4 ph = some (r, ph')) : PW l g (d + 0) m_ObjectFile_num 85 [px_u, px_u, px_u, px_u, .long a4, px_u, px_u] [] ph (px_qJ r ph') := by
  unfold f_ObjectFile_num_85 at h
  refine px_ld rfl rfl rfl rfl rfl ?_
  cases h
  exact px_lret rfl rfl rfl ⟨rfl, rfl⟩
def f_ObjectFile_num_49 (F : Nat) (c : px_CT) : Nat → Nat → Int32 → Int64 → Int32 → px_H → Option (Int64 × px_H)
  | 0, _, _, _, _, _ => none
  | n + 1, a0, a3, a4, a6, ph =>
    if a6 < 0 then
      f_ObjectFile_num_85 F c a4 ph
    else
      (xgR ph 7 0 a0).bind fun t1 =>
      (xgR ph 10 0 t1).bind fun t2 =>
      (xaI ph 0 t2 (a3 + a6)).bind fun t3 =>
      f_ObjectFile_num_49 F c n a0 a3 ((a4 <<< ((nI 8).toInt64 &&& 63)) ||| ((t3 &&& (nI 255)).toInt64)) (a6 + Int32.ofInt (-1)) ph
theorem r_ObjectFile_num_49 {l : Launch} {g : px_G} {d F : Nat} : ∀ (n : Nat) {a0 : Nat} {a3 : Int32} {a4 : Int64} {a6 : Int32} {ph : px_H} {r : Int64} {ph' : px_H}, f_ObjectFile_num_49 F (px_ct g) n a0 a3 a4 a6 ph = some (r, ph') → PW l g (d + 0) m_ObjectFile_num 49 [.ref a0, px_u, px_u, .int a3, .long a4, px_u, .int a6] [] ph (px_qJ r ph') := by
  intro n
  induction n with
  | zero => intro _ _ _ _ _ _ _ h; cases h
  | succ n ih =>
    intro a0 a3 a4 a6 ph r ph' h
    unfold f_ObjectFile_num_49 at h
    refine px_ld rfl rfl rfl rfl rfl ?_
    refine px_iflt rfl rfl rfl (fun hc => ?_) (fun hc => ?_)
    · replace h := (if_pos hc).symm.trans h
      refine px_forget (n := 0) (lv' := [_, _, _, _, _, _, _]) rfl ?_
      refine px_forget (n := 3) (lv' := [_, _, _, _, _, _, _]) rfl ?_
      refine px_forget (n := 6) (lv' := [_, _, _, _, _, _, _]) rfl ?_
      exact (r_ObjectFile_num_85 h :)
    · replace h := (if_neg hc).symm.trans h
      refine px_ld rfl rfl rfl rfl rfl ?_
      refine px_ic (k := 8) rfl rfl rfl ?_
      refine px_alu rfl rfl rfl ?_
      refine px_ld rfl rfl rfl rfl rfl ?_
      obtain ⟨t1, h0, h⟩ := xs_some h
      obtain ⟨fs, e1, e2⟩ := xgR_some h0
      refine px_get rfl e1 e2 rfl ?_
      obtain ⟨t2, h0, h⟩ := xs_some h
      obtain ⟨fs, e1, e2⟩ := xgR_some h0
      refine px_get rfl e1 e2 rfl ?_
      refine px_ld rfl rfl rfl rfl rfl ?_
      refine px_ld rfl rfl rfl rfl rfl ?_
      refine px_alu rfl rfl rfl ?_
      obtain ⟨t3, h0, h⟩ := xs_some h
      obtain ⟨N, f, e1, e2, e3⟩ := xaI_some h0
      subst e3
      refine px_bald rfl e1 rfl e2 rfl ?_
      refine px_ic (k := 255) rfl rfl rfl ?_
      refine px_alu rfl rfl rfl ?_
      refine px_alu rfl rfl rfl ?_
      refine px_alu rfl rfl rfl ?_
      refine px_st (lv' := [_, _, _, _, _, _, _]) rfl rfl rfl rfl rfl rfl rfl ?_
      refine px_iinc (lv' := [_, _, _, _, _, _, _]) rfl rfl rfl rfl rfl rfl ?_
      refine px_goto rfl rfl rfl ?_
      exact (ih h :)
def f_ObjectFile_num_39 (F : Nat) (c : px_CT) (ph : px_H) : Option (Int64 × px_H) :=
  some (lN 0, ph)
theorem r_ObjectFile_num_39 {l : Launch} {g : px_G} {d F : Nat} {ph : px_H} {r : Int64} {ph' : px_H} (h : f_ObjectFile_num_39 F (px_ct g) ph = some (r, ph')) : PW l g (d + 0) m_ObjectFile_num 39 [px_u, px_u, px_u, px_u, px_u, px_u, px_u] [] ph (px_qJ r ph') := by
  unfold f_ObjectFile_num_39 at h
  refine px_alu rfl rfl rfl ?_
  cases h
  exact px_lret rfl rfl rfl ⟨rfl, rfl⟩
def f_ObjectFile_num (F : Nat) (c : px_CT) (a0 : Nat) (a1 : Int32) (a2 : Int32) (ph : px_H) : Option (Int64 × px_H) :=
  (xgI ph 7 5 a0).bind fun t1 =>
  if a1 < 0 then
    f_ObjectFile_num_39 F c ph
  else
    (xgI ph 7 6 a0).bind fun t2 =>
    if (t2 - a2) < a1 then
      f_ObjectFile_num_39 F c ph
    else
      if (t1 + a1) < 0 then
        f_ObjectFile_num_39 F c ph
      else
        (xgR ph 7 0 a0).bind fun t3 =>
        (xgR ph 10 0 t3).bind fun t4 =>
        (xal ph 0 t4).bind fun t5 =>
        if (t1 + a1) ≤ (t5 - a2) then
          f_ObjectFile_num_49 F c F a0 (t1 + a1) (lN 0) (a2 - (nI 1)) ph
        else
          f_ObjectFile_num_39 F c ph
theorem r_ObjectFile_num {l : Launch} {g : px_G} {d F : Nat} {a0 : Nat} {a1 : Int32} {a2 : Int32} {ph : px_H} {r : Int64} {ph' : px_H} (h : f_ObjectFile_num F (px_ct g) a0 a1 a2 ph = some (r, ph')) : PW l g (d + 0) m_ObjectFile_num 0 [.ref a0, .int a1, .int a2, px_u, px_u, px_u, px_u] [] ph (px_qJ r ph') := by
  unfold f_ObjectFile_num at h
  refine px_ld rfl rfl rfl rfl rfl ?_
  obtain ⟨t1, h0, h⟩ := xs_some h
  obtain ⟨fs, e1, e2⟩ := xgI_some h0
  refine px_get rfl e1 e2 rfl ?_
  refine px_ld rfl rfl rfl rfl rfl ?_
  refine px_alu rfl rfl rfl ?_
  refine px_st (lv' := [_, _, _, _, _, _, _]) rfl rfl rfl rfl rfl rfl rfl ?_
  refine px_ld rfl rfl rfl rfl rfl ?_
  refine px_iflt rfl rfl rfl (fun hc => ?_) (fun hc => ?_)
  · replace h := (if_pos hc).symm.trans h
    refine px_forget (n := 0) (lv' := [_, _, _, _, _, _, _]) rfl ?_
    refine px_forget (n := 1) (lv' := [_, _, _, _, _, _, _]) rfl ?_
    refine px_forget (n := 2) (lv' := [_, _, _, _, _, _, _]) rfl ?_
    refine px_forget (n := 3) (lv' := [_, _, _, _, _, _, _]) rfl ?_
    exact (r_ObjectFile_num_39 h :)
  · replace h := (if_neg hc).symm.trans h
    refine px_ld rfl rfl rfl rfl rfl ?_
    refine px_ld rfl rfl rfl rfl rfl ?_
    obtain ⟨t2, h0, h⟩ := xs_some h
    obtain ⟨fs, e1, e2⟩ := xgI_some h0
    refine px_get rfl e1 e2 rfl ?_
    refine px_ld rfl rfl rfl rfl rfl ?_
    refine px_alu rfl rfl rfl ?_
    refine px_icgt rfl rfl rfl (fun hc => ?_) (fun hc => ?_)
    · replace h := (if_pos hc).symm.trans h
      refine px_forget (n := 0) (lv' := [_, _, _, _, _, _, _]) rfl ?_
      refine px_forget (n := 1) (lv' := [_, _, _, _, _, _, _]) rfl ?_
      refine px_forget (n := 2) (lv' := [_, _, _, _, _, _, _]) rfl ?_
      refine px_forget (n := 3) (lv' := [_, _, _, _, _, _, _]) rfl ?_
      exact (r_ObjectFile_num_39 h :)
    · replace h := (if_neg hc).symm.trans h
      refine px_ld rfl rfl rfl rfl rfl ?_
      refine px_iflt rfl rfl rfl (fun hc => ?_) (fun hc => ?_)
      · replace h := (if_pos hc).symm.trans h
        refine px_forget (n := 0) (lv' := [_, _, _, _, _, _, _]) rfl ?_
        refine px_forget (n := 1) (lv' := [_, _, _, _, _, _, _]) rfl ?_
        refine px_forget (n := 2) (lv' := [_, _, _, _, _, _, _]) rfl ?_
        refine px_forget (n := 3) (lv' := [_, _, _, _, _, _, _]) rfl ?_
        exact (r_ObjectFile_num_39 h :)
      · replace h := (if_neg hc).symm.trans h
        refine px_ld rfl rfl rfl rfl rfl ?_
        refine px_ld rfl rfl rfl rfl rfl ?_
        obtain ⟨t3, h0, h⟩ := xs_some h
        obtain ⟨fs, e1, e2⟩ := xgR_some h0
        refine px_get rfl e1 e2 rfl ?_
        obtain ⟨t4, h0, h⟩ := xs_some h
        obtain ⟨fs, e1, e2⟩ := xgR_some h0
        refine px_get rfl e1 e2 rfl ?_
        obtain ⟨t5, h0, h⟩ := xs_some h
        obtain ⟨x, e1, e3⟩ := xal_some h0
        subst e3
        refine px_alen rfl e1 rfl rfl ?_
        refine px_ld rfl rfl rfl rfl rfl ?_
        refine px_alu rfl rfl rfl ?_
        refine px_icle rfl rfl rfl (fun hc => ?_) (fun hc => ?_)
        · replace h := (if_pos hc).symm.trans h
          refine px_alu rfl rfl rfl ?_
          refine px_st (lv' := [_, _, _, _, _, _, _]) rfl rfl rfl rfl rfl rfl rfl ?_
          refine px_ld rfl rfl rfl rfl rfl ?_
          refine px_ic (k := 1) rfl rfl rfl ?_
          refine px_alu rfl rfl rfl ?_
          refine px_st (lv' := [_, _, _, _, _, _, _]) rfl rfl rfl rfl rfl rfl rfl ?_
          refine px_forget (n := 1) (lv' := [_, _, _, _, _, _, _]) rfl ?_
          refine px_forget (n := 2) (lv' := [_, _, _, _, _, _, _]) rfl ?_
          exact (r_ObjectFile_num_49 _ h :)
        · replace h := (if_neg hc).symm.trans h
          refine px_forget (n := 0) (lv' := [_, _, _, _, _, _, _]) rfl ?_
          refine px_forget (n := 1) (lv' := [_, _, _, _, _, _, _]) rfl ?_
          refine px_forget (n := 2) (lv' := [_, _, _, _, _, _, _]) rfl ?_
          refine px_forget (n := 3) (lv' := [_, _, _, _, _, _, _]) rfl ?_
          exact (r_ObjectFile_num_39 h :)
def f_ObjectFile_lengthOf (F : Nat) (c : px_CT) (a0 : Nat) (a1 : Int32) (ph : px_H) : Option (Int64 × px_H) :=
  (xgI ph 7 7 a0).bind fun t1 =>
  (xo ph 7 a0).bind fun _ =>
  xb (f_ObjectFile_num F c a0 ((t1 + ((nI 64) * a1)) + (nI 32)) (nI 8) ph) fun t2 ph3 =>
  some (t2, ph3)
theorem r_ObjectFile_lengthOf {l : Launch} {g : px_G} {d F : Nat} {a0 : Nat} {a1 : Int32} {ph : px_H} {r : Int64} {ph' : px_H} (h : f_ObjectFile_lengthOf F (px_ct g) a0 a1 ph = some (r, ph')) : PW l g (d + 1) m_ObjectFile_lengthOf 0 [.ref a0, .int a1] [] ph (px_qJ r ph') := by
  unfold f_ObjectFile_lengthOf at h
  refine px_ld rfl rfl rfl rfl rfl ?_
  refine px_ld rfl rfl rfl rfl rfl ?_
  obtain ⟨t1, h0, h⟩ := xs_some h
  obtain ⟨fs, e1, e2⟩ := xgI_some h0
  refine px_get rfl e1 e2 rfl ?_
  refine px_ic (k := 64) rfl rfl rfl ?_
  refine px_ld rfl rfl rfl rfl rfl ?_
  refine px_alu rfl rfl rfl ?_
  refine px_alu rfl rfl rfl ?_
  refine px_ic (k := 32) rfl rfl rfl ?_
  refine px_alu rfl rfl rfl ?_
  refine px_ic (k := 8) rfl rfl rfl ?_
  obtain ⟨fs, h0, h⟩ := xs_some h
  have e1 := xo_some h0
  obtain ⟨t2, ph3, h0, h⟩ := xb_some h
  refine px_cV2 rfl rfl e1 rfl rfl rfl rfl rfl rfl rfl (r_ObjectFile_num h0 :) (fun _ _ q => nomatch q.2) (fun r ph' q => ?_)
  obtain ⟨rfl, q⟩ := q
  cases q
  cases h
  exact px_lret rfl rfl rfl ⟨rfl, rfl⟩
def f_ObjectFile_alignOf (F : Nat) (c : px_CT) (a0 : Nat) (a1 : Int32) (ph : px_H) : Option (Int64 × px_H) :=
  (xgI ph 7 7 a0).bind fun t1 =>
  (xo ph 7 a0).bind fun _ =>
  xb (f_ObjectFile_num F c a0 ((t1 + ((nI 64) * a1)) + (nI 48)) (nI 8) ph) fun t2 ph3 =>
  some (t2, ph3)
theorem r_ObjectFile_alignOf {l : Launch} {g : px_G} {d F : Nat} {a0 : Nat} {a1 : Int32} {ph : px_H} {r : Int64} {ph' : px_H} (h : f_ObjectFile_alignOf F (px_ct g) a0 a1 ph = some (r, ph')) : PW l g (d + 1) m_ObjectFile_alignOf 0 [.ref a0, .int a1] [] ph (px_qJ r ph') := by
  unfold f_ObjectFile_alignOf at h
  refine px_ld rfl rfl rfl rfl rfl ?_
  refine px_ld rfl rfl rfl rfl rfl ?_
  obtain ⟨t1, h0, h⟩ := xs_some h
  obtain ⟨fs, e1, e2⟩ := xgI_some h0
  refine px_get rfl e1 e2 rfl ?_
  refine px_ic (k := 64) rfl rfl rfl ?_
  refine px_ld rfl rfl rfl rfl rfl ?_
  refine px_alu rfl rfl rfl ?_
  refine px_alu rfl rfl rfl ?_
  refine px_ic (k := 48) rfl rfl rfl ?_
  refine px_alu rfl rfl rfl ?_
  refine px_ic (k := 8) rfl rfl rfl ?_
  obtain ⟨fs, h0, h⟩ := xs_some h
  have e1 := xo_some h0
  obtain ⟨t2, ph3, h0, h⟩ := xb_some h
  refine px_cV2 rfl rfl e1 rfl rfl rfl rfl rfl rfl rfl (r_ObjectFile_num h0 :) (fun _ _ q => nomatch q.2) (fun r ph' q => ?_)
  obtain ⟨rfl, q⟩ := q
  cases q
  cases h
  exact px_lret rfl rfl rfl ⟨rfl, rfl⟩
def f_ObjectFile_placeOf (F : Nat) (c : px_CT) (a0 : Nat) (a1 : Int32) (ph : px_H) : Option (Int64 × px_H) :=
  (xgI ph 7 7 a0).bind fun t1 =>
  (xo ph 7 a0).bind fun _ =>
  xb (f_ObjectFile_num F c a0 ((t1 + ((nI 64) * a1)) + (nI 24)) (nI 8) ph) fun t2 ph3 =>
  some (t2, ph3)
theorem r_ObjectFile_placeOf {l : Launch} {g : px_G} {d F : Nat} {a0 : Nat} {a1 : Int32} {ph : px_H} {r : Int64} {ph' : px_H} (h : f_ObjectFile_placeOf F (px_ct g) a0 a1 ph = some (r, ph')) : PW l g (d + 1) m_ObjectFile_placeOf 0 [.ref a0, .int a1] [] ph (px_qJ r ph') := by
  unfold f_ObjectFile_placeOf at h
  refine px_ld rfl rfl rfl rfl rfl ?_
  refine px_ld rfl rfl rfl rfl rfl ?_
  obtain ⟨t1, h0, h⟩ := xs_some h
  obtain ⟨fs, e1, e2⟩ := xgI_some h0
  refine px_get rfl e1 e2 rfl ?_
  refine px_ic (k := 64) rfl rfl rfl ?_
  refine px_ld rfl rfl rfl rfl rfl ?_
  refine px_alu rfl rfl rfl ?_
  refine px_alu rfl rfl rfl ?_
  refine px_ic (k := 24) rfl rfl rfl ?_
  refine px_alu rfl rfl rfl ?_
  refine px_ic (k := 8) rfl rfl rfl ?_
  obtain ⟨fs, h0, h⟩ := xs_some h
  have e1 := xo_some h0
  obtain ⟨t2, ph3, h0, h⟩ := xb_some h
  refine px_cV2 rfl rfl e1 rfl rfl rfl rfl rfl rfl rfl (r_ObjectFile_num h0 :) (fun _ _ q => nomatch q.2) (fun r ph' q => ?_)
  obtain ⟨rfl, q⟩ := q
  cases q
  cases h
  exact px_lret rfl rfl rfl ⟨rfl, rfl⟩
def f_ObjectFile_isStrings_16 (F : Nat) (c : px_CT) (s0 : Int32) (ph : px_H) : Option (Int32 × px_H) :=
  xz s0 ph
theorem r_ObjectFile_isStrings_16 {l : Launch} {g : px_G} {d F : Nat} {s0 : Int32} {ph : px_H} {r : Int32} {ph' : px_H} (h : f_ObjectFile_isStrings_16 F (px_ct g) s0 ph = some (r, ph')) : PW l g (d + 0) m_ObjectFile_isStrings 16 [px_u, px_u] [.int s0] ph (px_qI r ph') := by
  unfold f_ObjectFile_isStrings_16 at h
  obtain ⟨e0, e1, e2⟩ := xz_some h
  subst e1 e2
  exact px_iret rfl (Or.inr ⟨rfl, e0⟩) rfl ⟨rfl, rfl⟩
def f_ObjectFile_isStrings (F : Nat) (c : px_CT) (a0 : Nat) (a1 : Int32) (ph : px_H) : Option (Int32 × px_H) :=
  (xgI ph 7 14 a0).bind fun t1 =>
  if ((t1 >>> (a1 &&& 31)) &&& (nI 1)) = 0 then
    f_ObjectFile_isStrings_16 F c (nI 0) ph
  else
    f_ObjectFile_isStrings_16 F c (nI 1) ph
theorem r_ObjectFile_isStrings {l : Launch} {g : px_G} {d F : Nat} {a0 : Nat} {a1 : Int32} {ph : px_H} {r : Int32} {ph' : px_H} (h : f_ObjectFile_isStrings F (px_ct g) a0 a1 ph = some (r, ph')) : PW l g (d + 0) m_ObjectFile_isStrings 0 [.ref a0, .int a1] [] ph (px_qI r ph') := by
  unfold f_ObjectFile_isStrings at h
  refine px_ld rfl rfl rfl rfl rfl ?_
  obtain ⟨t1, h0, h⟩ := xs_some h
  obtain ⟨fs, e1, e2⟩ := xgI_some h0
  refine px_get rfl e1 e2 rfl ?_
  refine px_ld rfl rfl rfl rfl rfl ?_
  refine px_alu rfl rfl rfl ?_
  refine px_ic (k := 1) rfl rfl rfl ?_
  refine px_alu rfl rfl rfl ?_
  refine px_ifeq rfl rfl rfl (fun hc => ?_) (fun hc => ?_)
  · replace h := (if_pos hc).symm.trans h
    refine px_ic (k := 0) rfl rfl rfl ?_
    refine px_forget (n := 0) (lv' := [_, _]) rfl ?_
    refine px_forget (n := 1) (lv' := [_, _]) rfl ?_
    exact (r_ObjectFile_isStrings_16 h :)
  · replace h := (if_neg hc).symm.trans h
    refine px_ic (k := 1) rfl rfl rfl ?_
    refine px_goto rfl rfl rfl ?_
    refine px_forget (n := 0) (lv' := [_, _]) rfl ?_
    refine px_forget (n := 1) (lv' := [_, _]) rfl ?_
    exact (r_ObjectFile_isStrings_16 h :)
def f_Link_openParts_201 (F : Nat) (c : px_CT) (ph : px_H) : Option (Unit × px_H) :=
  some ((), ph)
theorem r_Link_openParts_201 {l : Launch} {g : px_G} {d F : Nat} {ph : px_H} {r : Unit} {ph' : px_H} (h : f_Link_openParts_201 F (px_ct g) ph = some (r, ph')) : PW l g (d + 2) m_Link_openParts 201 [px_u, px_u, px_u, px_u, px_u, px_u] [] ph (px_qV r ph') := by
  unfold f_Link_openParts_201 at h
  cases h
  exact px_vret rfl rfl rfl ⟨rfl, rfl⟩
def f_Link_openParts_180 (F : Nat) (c : px_CT) (k2 : Nat → Int32 → Option Nat → Int32 → px_H → Option (Unit × px_H)) (a0 : Nat) (a1 : Int32) (a2 : Option Nat) (a3 : Int32) (a4 : Option Nat) (s0 : Option Nat) (s1 : Int32) (ph : px_H) : Option (Unit × px_H) :=
  (s0).bind fun p1 =>
  (xpZ ph 8 10 p1 s1).bind fun ph2 =>
  (a4).bind fun p3 =>
  (xpJ ph2 8 11 p3 (lN 0)).bind fun ph4 =>
  (xpI ph4 8 12 p3 (nI 0)).bind fun ph5 =>
  k2 a0 a1 a2 (a3 + nI 1) ph5
theorem r_Link_openParts_180 {l : Launch} {g : px_G} {d F : Nat} {k2 : Nat → Int32 → Option Nat → Int32 → px_H → Option (Unit × px_H)} (hk2 : ∀ {a0 : Nat} {a1 : Int32} {a2 : Option Nat} {a3 : Int32} {ph : px_H} {r : Unit} {ph' : px_H}, k2 a0 a1 a2 a3 ph = some (r, ph') → PW l g (d + 2) m_Link_openParts 2 [.ref a0, .int a1, va_rf a2, .int a3, px_u, px_u] [] ph (px_qV r ph')) {a0 : Nat} {a1 : Int32} {a2 : Option Nat} {a3 : Int32} {a4 : Option Nat} {s0 : Option Nat} {s1 : Int32} {ph : px_H} {r : Unit} {ph' : px_H} (h : f_Link_openParts_180 F (px_ct g) k2 a0 a1 a2 a3 a4 s0 s1 ph = some (r, ph')) : PW l g (d + 2) m_Link_openParts 180 [.ref a0, .int a1, va_rf a2, .int a3, va_rf a4, px_u] [.int s1, va_rf s0] ph (px_qV r ph') := by
  unfold f_Link_openParts_180 at h
  obtain ⟨p1, h0, h⟩ := xs_some h
  revert h
  subst h0
  intro h
  obtain ⟨ph2, h0, h⟩ := xs_some h
  obtain ⟨fs, e1, e2, e3, e4⟩ := xpZ_some h0
  subst e3
  refine px_put rfl e1 e2 e4 rfl ?_
  refine px_ld rfl rfl rfl (by first | rfl | (cases a4 <;> rfl)) rfl ?_
  refine px_alu rfl rfl rfl ?_
  obtain ⟨p3, h0, h⟩ := xs_some h
  revert h
  subst h0
  intro h
  obtain ⟨ph4, h0, h⟩ := xs_some h
  obtain ⟨fs, e1, e2, e3⟩ := xpJ_some h0
  subst e3
  refine px_put rfl e1 e2 trivial rfl ?_
  refine px_ld rfl rfl rfl rfl rfl ?_
  refine px_ic (k := 0) rfl rfl rfl ?_
  obtain ⟨ph5, h0, h⟩ := xs_some h
  obtain ⟨fs, e1, e2, e3⟩ := xpI_some h0
  subst e3
  refine px_put rfl e1 e2 trivial rfl ?_
  refine px_iinc (lv' := [_, _, _, _, _, _]) rfl rfl rfl (by first | rfl | (cases a2 <;> rfl)) rfl rfl ?_
  refine px_goto rfl (by decide) rfl ?_
  refine px_forget (n := 4) (lv' := [_, _, _, _, _, _]) rfl ?_
  exact (hk2 h :)
def f_Link_openParts_179 (F : Nat) (c : px_CT) (k2 : Nat → Int32 → Option Nat → Int32 → px_H → Option (Unit × px_H)) (a0 : Nat) (a1 : Int32) (a2 : Option Nat) (a3 : Int32) (a4 : Option Nat) (s0 : Option Nat) (ph : px_H) : Option (Unit × px_H) :=
  f_Link_openParts_180 F c k2 a0 a1 a2 a3 a4 s0 (nI 0) ph
theorem r_Link_openParts_179 {l : Launch} {g : px_G} {d F : Nat} {k2 : Nat → Int32 → Option Nat → Int32 → px_H → Option (Unit × px_H)} (hk2 : ∀ {a0 : Nat} {a1 : Int32} {a2 : Option Nat} {a3 : Int32} {ph : px_H} {r : Unit} {ph' : px_H}, k2 a0 a1 a2 a3 ph = some (r, ph') → PW l g (d + 2) m_Link_openParts 2 [.ref a0, .int a1, va_rf a2, .int a3, px_u, px_u] [] ph (px_qV r ph')) {a0 : Nat} {a1 : Int32} {a2 : Option Nat} {a3 : Int32} {a4 : Option Nat} {s0 : Option Nat} {ph : px_H} {r : Unit} {ph' : px_H} (h : f_Link_openParts_179 F (px_ct g) k2 a0 a1 a2 a3 a4 s0 ph = some (r, ph')) : PW l g (d + 2) m_Link_openParts 179 [.ref a0, .int a1, va_rf a2, .int a3, va_rf a4, px_u] [va_rf s0] ph (px_qV r ph') := by
  unfold f_Link_openParts_179 at h
  refine px_ic (k := 0) rfl rfl rfl ?_
  exact (r_Link_openParts_180 @hk2 h :)
def f_Link_openParts_157 (F : Nat) (c : px_CT) (k2 : Nat → Int32 → Option Nat → Int32 → px_H → Option (Unit × px_H)) (a0 : Nat) (a1 : Int32) (a2 : Option Nat) (a3 : Int32) (a4 : Option Nat) (a5 : Int32) (s0 : Option Nat) (s1 : Int32) (ph : px_H) : Option (Unit × px_H) :=
  (s0).bind fun p1 =>
  (xpI ph 8 7 p1 s1).bind fun ph2 =>
  if a5 < 0 then
    f_Link_openParts_179 F c k2 a0 a1 a2 a3 a4 a4 ph2
  else
    (a2).bind fun p3 =>
    (xo ph2 7 p3).bind fun _ =>
    xb (f_ObjectFile_isStrings F c p3 a3 ph2) fun t4 ph5 =>
    if t4 = 0 then
      f_Link_openParts_179 F c k2 a0 a1 (some p3) a3 a4 a4 ph5
    else
      f_Link_openParts_180 F c k2 a0 a1 (some p3) a3 a4 a4 (nI 1) ph5
theorem r_Link_openParts_157 {l : Launch} {g : px_G} {d F : Nat} {k2 : Nat → Int32 → Option Nat → Int32 → px_H → Option (Unit × px_H)} (hk2 : ∀ {a0 : Nat} {a1 : Int32} {a2 : Option Nat} {a3 : Int32} {ph : px_H} {r : Unit} {ph' : px_H}, k2 a0 a1 a2 a3 ph = some (r, ph') → PW l g (d + 2) m_Link_openParts 2 [.ref a0, .int a1, va_rf a2, .int a3, px_u, px_u] [] ph (px_qV r ph')) {a0 : Nat} {a1 : Int32} {a2 : Option Nat} {a3 : Int32} {a4 : Option Nat} {a5 : Int32} {s0 : Option Nat} {s1 : Int32} {ph : px_H} {r : Unit} {ph' : px_H} (h : f_Link_openParts_157 F (px_ct g) k2 a0 a1 a2 a3 a4 a5 s0 s1 ph = some (r, ph')) : PW l g (d + 2) m_Link_openParts 157 [.ref a0, .int a1, va_rf a2, .int a3, va_rf a4, .int a5] [.int s1, va_rf s0] ph (px_qV r ph') := by
  unfold f_Link_openParts_157 at h
  obtain ⟨p1, h0, h⟩ := xs_some h
  revert h
  subst h0
  intro h
  obtain ⟨ph2, h0, h⟩ := xs_some h
  obtain ⟨fs, e1, e2, e3⟩ := xpI_some h0
  subst e3
  refine px_put rfl e1 e2 trivial rfl ?_
  refine px_ld rfl rfl rfl (by first | rfl | (cases a4 <;> rfl)) rfl ?_
  refine px_ld rfl rfl rfl rfl rfl ?_
  refine px_iflt rfl (by decide) rfl (fun hc => ?_) (fun hc => ?_)
  · replace h := (if_pos hc).symm.trans h
    refine px_forget (n := 5) (lv' := [_, _, _, _, _, _]) rfl ?_
    exact (r_Link_openParts_179 @hk2 h :)
  · replace h := (if_neg hc).symm.trans h
    refine px_ld rfl rfl rfl (by first | rfl | (cases a2 <;> rfl)) rfl ?_
    refine px_ld rfl rfl rfl rfl rfl ?_
    obtain ⟨p3, h0, h⟩ := xs_some h
    revert h
    subst h0
    intro h
    obtain ⟨fs, h0, h⟩ := xs_some h
    have e1 := xo_some h0
    obtain ⟨t4, ph5, h0, h⟩ := xb_some h
    refine px_cV1 rfl rfl e1 rfl rfl rfl rfl (by first | rfl | (cases a4 <;> rfl)) rfl rfl (r_ObjectFile_isStrings h0 :) (fun _ _ q => nomatch q.2) (fun r ph' q => ?_)
    obtain ⟨rfl, q⟩ := q
    cases q
    refine px_ifeq rfl (by decide) rfl (fun hc => ?_) (fun hc => ?_)
    · replace h := (if_pos hc).symm.trans h
      refine px_forget (n := 5) (lv' := [_, _, _, _, _, _]) rfl ?_
      exact (r_Link_openParts_179 @hk2 h :)
    · replace h := (if_neg hc).symm.trans h
      refine px_ic (k := 1) rfl rfl rfl ?_
      refine px_goto rfl (by decide) rfl ?_
      refine px_forget (n := 5) (lv' := [_, _, _, _, _, _]) rfl ?_
      exact (r_Link_openParts_180 @hk2 h :)
def f_Link_openParts_132 (F : Nat) (c : px_CT) (k2 : Nat → Int32 → Option Nat → Int32 → px_H → Option (Unit × px_H)) (a0 : Nat) (a1 : Int32) (a2 : Option Nat) (a3 : Int32) (a4 : Option Nat) (a5 : Int32) (s0 : Option Nat) (s1 : Int32) (ph : px_H) : Option (Unit × px_H) :=
  (s0).bind fun p1 =>
  (xpI ph 8 6 p1 s1).bind fun ph2 =>
  if 0 ≤ a5 then
    (a2).bind fun p3 =>
    (xgI ph2 7 5 p3).bind fun t4 =>
    (xo ph2 7 p3).bind fun _ =>
    xb (f_ObjectFile_placeOf F c p3 a3 ph2) fun t5 ph6 =>
    f_Link_openParts_157 F c k2 a0 a1 (some p3) a3 a4 a5 a4 (t4 + t5.toInt32) ph6
  else
    f_Link_openParts_157 F c k2 a0 a1 a2 a3 a4 a5 a4 (nI 0) ph2
theorem r_Link_openParts_132 {l : Launch} {g : px_G} {d F : Nat} {k2 : Nat → Int32 → Option Nat → Int32 → px_H → Option (Unit × px_H)} (hk2 : ∀ {a0 : Nat} {a1 : Int32} {a2 : Option Nat} {a3 : Int32} {ph : px_H} {r : Unit} {ph' : px_H}, k2 a0 a1 a2 a3 ph = some (r, ph') → PW l g (d + 2) m_Link_openParts 2 [.ref a0, .int a1, va_rf a2, .int a3, px_u, px_u] [] ph (px_qV r ph')) {a0 : Nat} {a1 : Int32} {a2 : Option Nat} {a3 : Int32} {a4 : Option Nat} {a5 : Int32} {s0 : Option Nat} {s1 : Int32} {ph : px_H} {r : Unit} {ph' : px_H} (h : f_Link_openParts_132 F (px_ct g) k2 a0 a1 a2 a3 a4 a5 s0 s1 ph = some (r, ph')) : PW l g (d + 2) m_Link_openParts 132 [.ref a0, .int a1, va_rf a2, .int a3, va_rf a4, .int a5] [.int s1, va_rf s0] ph (px_qV r ph') := by
  unfold f_Link_openParts_132 at h
  obtain ⟨p1, h0, h⟩ := xs_some h
  revert h
  subst h0
  intro h
  obtain ⟨ph2, h0, h⟩ := xs_some h
  obtain ⟨fs, e1, e2, e3⟩ := xpI_some h0
  subst e3
  refine px_put rfl e1 e2 trivial rfl ?_
  refine px_ld rfl rfl rfl (by first | rfl | (cases a4 <;> rfl)) rfl ?_
  refine px_ld rfl rfl rfl rfl rfl ?_
  refine px_ifge rfl (by decide) rfl (fun hc => ?_) (fun hc => ?_)
  · replace h := (if_pos hc).symm.trans h
    refine px_ld rfl rfl rfl (by first | rfl | (cases a2 <;> rfl)) rfl ?_
    obtain ⟨p3, h0, h⟩ := xs_some h
    revert h
    subst h0
    intro h
    obtain ⟨t4, h0, h⟩ := xs_some h
    obtain ⟨fs, e1, e2⟩ := xgI_some h0
    refine px_get rfl e1 e2 rfl ?_
    refine px_ld rfl rfl rfl rfl rfl ?_
    refine px_ld rfl rfl rfl rfl rfl ?_
    obtain ⟨fs, h0, h⟩ := xs_some h
    have e1 := xo_some h0
    obtain ⟨t5, ph6, h0, h⟩ := xb_some h
    refine px_cV1 rfl rfl e1 rfl rfl rfl rfl (by first | rfl | (cases a4 <;> rfl)) rfl rfl (r_ObjectFile_placeOf h0 :) (fun _ _ q => nomatch q.2) (fun r ph' q => ?_)
    obtain ⟨rfl, q⟩ := q
    cases q
    refine px_alu rfl rfl rfl ?_
    refine px_alu rfl rfl rfl ?_
    exact (r_Link_openParts_157 @hk2 h :)
  · replace h := (if_neg hc).symm.trans h
    refine px_ic (k := 0) rfl rfl rfl ?_
    refine px_goto rfl (by decide) rfl ?_
    exact (r_Link_openParts_157 @hk2 h :)
def f_Link_openParts_108 (F : Nat) (c : px_CT) (k2 : Nat → Int32 → Option Nat → Int32 → px_H → Option (Unit × px_H)) (a0 : Nat) (a1 : Int32) (a2 : Option Nat) (a3 : Int32) (a4 : Option Nat) (a5 : Int32) (s0 : Option Nat) (s1 : Int32) (ph : px_H) : Option (Unit × px_H) :=
  (s0).bind fun p1 =>
  (xpI ph 8 5 p1 s1).bind fun ph2 =>
  if 0 ≤ a5 then
    (a2).bind fun p3 =>
    (xo ph2 7 p3).bind fun _ =>
    xb (f_ObjectFile_alignOf F c p3 a3 ph2) fun t4 ph5 =>
    f_Link_openParts_132 F c k2 a0 a1 (some p3) a3 a4 a5 a4 ((if t4 < (lN 1) then (lN 1) else t4).toInt32) ph5
  else
    f_Link_openParts_132 F c k2 a0 a1 a2 a3 a4 a5 a4 (nI 1) ph2
theorem r_Link_openParts_108 {l : Launch} {g : px_G} {d F : Nat} {k2 : Nat → Int32 → Option Nat → Int32 → px_H → Option (Unit × px_H)} (hk2 : ∀ {a0 : Nat} {a1 : Int32} {a2 : Option Nat} {a3 : Int32} {ph : px_H} {r : Unit} {ph' : px_H}, k2 a0 a1 a2 a3 ph = some (r, ph') → PW l g (d + 2) m_Link_openParts 2 [.ref a0, .int a1, va_rf a2, .int a3, px_u, px_u] [] ph (px_qV r ph')) {a0 : Nat} {a1 : Int32} {a2 : Option Nat} {a3 : Int32} {a4 : Option Nat} {a5 : Int32} {s0 : Option Nat} {s1 : Int32} {ph : px_H} {r : Unit} {ph' : px_H} (h : f_Link_openParts_108 F (px_ct g) k2 a0 a1 a2 a3 a4 a5 s0 s1 ph = some (r, ph')) : PW l g (d + 2) m_Link_openParts 108 [.ref a0, .int a1, va_rf a2, .int a3, va_rf a4, .int a5] [.int s1, va_rf s0] ph (px_qV r ph') := by
  unfold f_Link_openParts_108 at h
  obtain ⟨p1, h0, h⟩ := xs_some h
  revert h
  subst h0
  intro h
  obtain ⟨ph2, h0, h⟩ := xs_some h
  obtain ⟨fs, e1, e2, e3⟩ := xpI_some h0
  subst e3
  refine px_put rfl e1 e2 trivial rfl ?_
  refine px_ld rfl rfl rfl (by first | rfl | (cases a4 <;> rfl)) rfl ?_
  refine px_ld rfl rfl rfl rfl rfl ?_
  refine px_ifge rfl (by decide) rfl (fun hc => ?_) (fun hc => ?_)
  · replace h := (if_pos hc).symm.trans h
    refine px_alu rfl rfl rfl ?_
    refine px_ld rfl rfl rfl (by first | rfl | (cases a2 <;> rfl)) rfl ?_
    refine px_ld rfl rfl rfl rfl rfl ?_
    obtain ⟨p3, h0, h⟩ := xs_some h
    revert h
    subst h0
    intro h
    obtain ⟨fs, h0, h⟩ := xs_some h
    have e1 := xo_some h0
    obtain ⟨t4, ph5, h0, h⟩ := xb_some h
    refine px_cV1 rfl rfl e1 rfl rfl rfl rfl (by first | rfl | (cases a4 <;> rfl)) rfl rfl (r_ObjectFile_alignOf h0 :) (fun _ _ q => nomatch q.2) (fun r ph' q => ?_)
    obtain ⟨rfl, q⟩ := q
    cases q
    refine px_maxl rfl (by first | rfl | (cases a4 <;> rfl)) rfl ?_
    refine px_alu rfl rfl rfl ?_
    exact (r_Link_openParts_132 @hk2 h :)
  · replace h := (if_neg hc).symm.trans h
    refine px_ic (k := 1) rfl rfl rfl ?_
    refine px_goto rfl (by decide) rfl ?_
    exact (r_Link_openParts_132 @hk2 h :)
def f_Link_openParts_88 (F : Nat) (c : px_CT) (k2 : Nat → Int32 → Option Nat → Int32 → px_H → Option (Unit × px_H)) (a0 : Nat) (a1 : Int32) (a2 : Option Nat) (a3 : Int32) (a4 : Option Nat) (a5 : Int32) (s0 : Option Nat) (s1 : Int32) (ph : px_H) : Option (Unit × px_H) :=
  (s0).bind fun p1 =>
  (xpZ ph 8 9 p1 s1).bind fun ph2 =>
  if 0 ≤ a5 then
    (a2).bind fun p3 =>
    (xo ph2 7 p3).bind fun _ =>
    xb (f_ObjectFile_lengthOf F c p3 a3 ph2) fun t4 ph5 =>
    f_Link_openParts_108 F c k2 a0 a1 (some p3) a3 a4 a5 a4 t4.toInt32 ph5
  else
    f_Link_openParts_108 F c k2 a0 a1 a2 a3 a4 a5 a4 (nI 0) ph2
theorem r_Link_openParts_88 {l : Launch} {g : px_G} {d F : Nat} {k2 : Nat → Int32 → Option Nat → Int32 → px_H → Option (Unit × px_H)} (hk2 : ∀ {a0 : Nat} {a1 : Int32} {a2 : Option Nat} {a3 : Int32} {ph : px_H} {r : Unit} {ph' : px_H}, k2 a0 a1 a2 a3 ph = some (r, ph') → PW l g (d + 2) m_Link_openParts 2 [.ref a0, .int a1, va_rf a2, .int a3, px_u, px_u] [] ph (px_qV r ph')) {a0 : Nat} {a1 : Int32} {a2 : Option Nat} {a3 : Int32} {a4 : Option Nat} {a5 : Int32} {s0 : Option Nat} {s1 : Int32} {ph : px_H} {r : Unit} {ph' : px_H} (h : f_Link_openParts_88 F (px_ct g) k2 a0 a1 a2 a3 a4 a5 s0 s1 ph = some (r, ph')) : PW l g (d + 2) m_Link_openParts 88 [.ref a0, .int a1, va_rf a2, .int a3, va_rf a4, .int a5] [.int s1, va_rf s0] ph (px_qV r ph') := by
  unfold f_Link_openParts_88 at h
  obtain ⟨p1, h0, h⟩ := xs_some h
  revert h
  subst h0
  intro h
  obtain ⟨ph2, h0, h⟩ := xs_some h
  obtain ⟨fs, e1, e2, e3, e4⟩ := xpZ_some h0
  subst e3
  refine px_put rfl e1 e2 e4 rfl ?_
  refine px_ld rfl rfl rfl (by first | rfl | (cases a4 <;> rfl)) rfl ?_
  refine px_ld rfl rfl rfl rfl rfl ?_
  refine px_ifge rfl (by decide) rfl (fun hc => ?_) (fun hc => ?_)
  · replace h := (if_pos hc).symm.trans h
    refine px_ld rfl rfl rfl (by first | rfl | (cases a2 <;> rfl)) rfl ?_
    refine px_ld rfl rfl rfl rfl rfl ?_
    obtain ⟨p3, h0, h⟩ := xs_some h
    revert h
    subst h0
    intro h
    obtain ⟨fs, h0, h⟩ := xs_some h
    have e1 := xo_some h0
    obtain ⟨t4, ph5, h0, h⟩ := xb_some h
    refine px_cV1 rfl rfl e1 rfl rfl rfl rfl (by first | rfl | (cases a4 <;> rfl)) rfl rfl (r_ObjectFile_lengthOf h0 :) (fun _ _ q => nomatch q.2) (fun r ph' q => ?_)
    obtain ⟨rfl, q⟩ := q
    cases q
    refine px_alu rfl rfl rfl ?_
    exact (r_Link_openParts_108 @hk2 h :)
  · replace h := (if_neg hc).symm.trans h
    refine px_ic (k := 0) rfl rfl rfl ?_
    refine px_goto rfl (by decide) rfl ?_
    exact (r_Link_openParts_108 @hk2 h :)
def f_Link_openParts_73 (F : Nat) (c : px_CT) (k2 : Nat → Int32 → Option Nat → Int32 → px_H → Option (Unit × px_H)) (a0 : Nat) (a1 : Int32) (a2 : Option Nat) (a3 : Int32) (a4 : Option Nat) (a5 : Int32) (s0 : Option Nat) (s1 : Int32) (ph : px_H) : Option (Unit × px_H) :=
  (s0).bind fun p1 =>
  (xpI ph 8 8 p1 s1).bind fun ph2 =>
  if a5 < 0 then
    f_Link_openParts_88 F c k2 a0 a1 a2 a3 a4 a5 a4 (nI 0) ph2
  else
    f_Link_openParts_88 F c k2 a0 a1 a2 a3 a4 a5 a4 (nI 1) ph2
theorem r_Link_openParts_73 {l : Launch} {g : px_G} {d F : Nat} {k2 : Nat → Int32 → Option Nat → Int32 → px_H → Option (Unit × px_H)} (hk2 : ∀ {a0 : Nat} {a1 : Int32} {a2 : Option Nat} {a3 : Int32} {ph : px_H} {r : Unit} {ph' : px_H}, k2 a0 a1 a2 a3 ph = some (r, ph') → PW l g (d + 2) m_Link_openParts 2 [.ref a0, .int a1, va_rf a2, .int a3, px_u, px_u] [] ph (px_qV r ph')) {a0 : Nat} {a1 : Int32} {a2 : Option Nat} {a3 : Int32} {a4 : Option Nat} {a5 : Int32} {s0 : Option Nat} {s1 : Int32} {ph : px_H} {r : Unit} {ph' : px_H} (h : f_Link_openParts_73 F (px_ct g) k2 a0 a1 a2 a3 a4 a5 s0 s1 ph = some (r, ph')) : PW l g (d + 2) m_Link_openParts 73 [.ref a0, .int a1, va_rf a2, .int a3, va_rf a4, .int a5] [.int s1, va_rf s0] ph (px_qV r ph') := by
  unfold f_Link_openParts_73 at h
  obtain ⟨p1, h0, h⟩ := xs_some h
  revert h
  subst h0
  intro h
  obtain ⟨ph2, h0, h⟩ := xs_some h
  obtain ⟨fs, e1, e2, e3⟩ := xpI_some h0
  subst e3
  refine px_put rfl e1 e2 trivial rfl ?_
  refine px_ld rfl rfl rfl (by first | rfl | (cases a4 <;> rfl)) rfl ?_
  refine px_ld rfl rfl rfl rfl rfl ?_
  refine px_iflt rfl (by decide) rfl (fun hc => ?_) (fun hc => ?_)
  · replace h := (if_pos hc).symm.trans h
    refine px_ic (k := 0) rfl rfl rfl ?_
    exact (r_Link_openParts_88 @hk2 h :)
  · replace h := (if_neg hc).symm.trans h
    refine px_ic (k := 1) rfl rfl rfl ?_
    refine px_goto rfl (by decide) rfl ?_
    exact (r_Link_openParts_88 @hk2 h :)
def f_Link_openParts_2 (F : Nat) (c : px_CT) : Nat → Nat → Int32 → Option Nat → Int32 → px_H → Option (Unit × px_H)
  | 0, _, _, _, _, _ => none
  | n + 1, a0, a1, a2, a3, ph =>
    if (nI 24) ≤ a3 then
      f_Link_openParts_201 F c ph
    else
      (xo ph 3 a0).bind fun _ =>
      xb (f_Link_part F c a0 a1 a3 ph) fun t1 ph2 =>
      (a2).bind fun p3 =>
      (xo ph2 7 p3).bind fun _ =>
      xb (f_ObjectFile_groupOf F c p3 a3.toInt64 ph2) fun t4 ph5 =>
      (t1).bind fun p6 =>
      (xpI ph5 8 0 p6 a1).bind fun ph7 =>
      (xgI ph7 7 1 p3).bind fun t8 =>
      (xpI ph7 8 1 p6 t8).bind fun ph9 =>
      (xgI ph9 7 2 p3).bind fun t10 =>
      (xpI ph9 8 2 p6 t10).bind fun ph11 =>
      (xpI ph11 8 3 p6 a3).bind fun ph12 =>
      (xpI ph12 8 4 p6 t4).bind fun ph13 =>
      if 0 ≤ t4 then
        f_Link_openParts_73 F c (f_Link_openParts_2 F c n) a0 a1 (some p3) a3 (some p6) t4 (some p6) (nI 1) ph13
      else
        f_Link_openParts_73 F c (f_Link_openParts_2 F c n) a0 a1 (some p3) a3 (some p6) t4 (some p6) (nI 0) ph13
theorem r_Link_openParts_2 {l : Launch} {g : px_G} {d F : Nat} : ∀ (n : Nat) {a0 : Nat} {a1 : Int32} {a2 : Option Nat} {a3 : Int32} {ph : px_H} {r : Unit} {ph' : px_H}, f_Link_openParts_2 F (px_ct g) n a0 a1 a2 a3 ph = some (r, ph') → PW l g (d + 2) m_Link_openParts 2 [.ref a0, .int a1, va_rf a2, .int a3, px_u, px_u] [] ph (px_qV r ph') := by
  intro n
  induction n with
  | zero => intro _ _ _ _ _ _ _ h; cases h
  | succ n ih =>
    intro a0 a1 a2 a3 ph r ph' h
    unfold f_Link_openParts_2 at h
    refine px_ld rfl rfl rfl rfl rfl ?_
    refine px_ic (k := 24) rfl rfl rfl ?_
    refine px_icge rfl (by decide) rfl (fun hc => ?_) (fun hc => ?_)
    · replace h := (if_pos hc).symm.trans h
      refine px_forget (n := 0) (lv' := [_, _, _, _, _, _]) rfl ?_
      refine px_forget (n := 1) (lv' := [_, _, _, _, _, _]) rfl ?_
      refine px_forget (n := 2) (lv' := [_, _, _, _, _, _]) rfl ?_
      refine px_forget (n := 3) (lv' := [_, _, _, _, _, _]) rfl ?_
      exact (r_Link_openParts_201 h :)
    · replace h := (if_neg hc).symm.trans h
      refine px_ld rfl rfl rfl rfl rfl ?_
      refine px_ld rfl rfl rfl rfl rfl ?_
      refine px_ld rfl rfl rfl rfl rfl ?_
      obtain ⟨fs, h0, h⟩ := xs_some h
      have e1 := xo_some h0
      obtain ⟨t1, ph2, h0, h⟩ := xb_some h
      refine px_cV2 rfl rfl e1 rfl rfl rfl rfl rfl rfl rfl (r_Link_part h0 :) (fun _ _ q => nomatch q.2) (fun r ph' q => ?_)
      obtain ⟨rfl, q⟩ := q
      cases q
      refine px_st (lv' := [.ref a0, .int a1, va_rf a2, .int a3, va_rf t1, px_u]) rfl rfl (by first | rfl | (cases t1 <;> rfl)) (by first | rfl | (cases t1 <;> rfl)) rfl (by first | rfl | (cases t1 <;> rfl)) rfl ?_
      refine px_ld rfl rfl rfl (by first | rfl | (cases a2 <;> rfl)) rfl ?_
      refine px_ld rfl rfl rfl rfl rfl ?_
      refine px_alu rfl rfl rfl ?_
      obtain ⟨p3, h0, h⟩ := xs_some h
      revert h
      subst h0
      intro h
      obtain ⟨fs, h0, h⟩ := xs_some h
      have e1 := xo_some h0
      obtain ⟨t4, ph5, h0, h⟩ := xb_some h
      refine px_cV1 rfl rfl e1 rfl rfl rfl rfl rfl rfl rfl (r_ObjectFile_groupOf h0 :) (fun _ _ q => nomatch q.2) (fun r ph' q => ?_)
      obtain ⟨rfl, q⟩ := q
      cases q
      refine px_st (lv' := [.ref a0, .int a1, .ref p3, .int a3, va_rf t1, .int t4]) rfl rfl rfl rfl (by first | rfl | (cases t1 <;> rfl)) rfl rfl ?_
      refine px_ld rfl rfl rfl (by first | rfl | (cases t1 <;> rfl)) rfl ?_
      refine px_ld rfl rfl rfl rfl rfl ?_
      obtain ⟨p6, h0, h⟩ := xs_some h
      revert h
      subst h0
      intro h
      obtain ⟨ph7, h0, h⟩ := xs_some h
      obtain ⟨fs, e1, e2, e3⟩ := xpI_some h0
      subst e3
      refine px_put rfl e1 e2 trivial rfl ?_
      refine px_ld rfl rfl rfl rfl rfl ?_
      refine px_ld rfl rfl rfl rfl rfl ?_
      obtain ⟨t8, h0, h⟩ := xs_some h
      obtain ⟨fs, e1, e2⟩ := xgI_some h0
      refine px_get rfl e1 e2 rfl ?_
      obtain ⟨ph9, h0, h⟩ := xs_some h
      obtain ⟨fs, e1, e2, e3⟩ := xpI_some h0
      subst e3
      refine px_put rfl e1 e2 trivial rfl ?_
      refine px_ld rfl rfl rfl rfl rfl ?_
      refine px_ld rfl rfl rfl rfl rfl ?_
      obtain ⟨t10, h0, h⟩ := xs_some h
      obtain ⟨fs, e1, e2⟩ := xgI_some h0
      refine px_get rfl e1 e2 rfl ?_
      obtain ⟨ph11, h0, h⟩ := xs_some h
      obtain ⟨fs, e1, e2, e3⟩ := xpI_some h0
      subst e3
      refine px_put rfl e1 e2 trivial rfl ?_
      refine px_ld rfl rfl rfl rfl rfl ?_
      refine px_ld rfl rfl rfl rfl rfl ?_
      obtain ⟨ph12, h0, h⟩ := xs_some h
      obtain ⟨fs, e1, e2, e3⟩ := xpI_some h0
      subst e3
      refine px_put rfl e1 e2 trivial rfl ?_
      refine px_ld rfl rfl rfl rfl rfl ?_
      refine px_ld rfl rfl rfl rfl rfl ?_
      obtain ⟨ph13, h0, h⟩ := xs_some h
      obtain ⟨fs, e1, e2, e3⟩ := xpI_some h0
      subst e3
      refine px_put rfl e1 e2 trivial rfl ?_
      refine px_ld rfl rfl rfl rfl rfl ?_
      refine px_ld rfl rfl rfl rfl rfl ?_
      refine px_ifge rfl (by decide) rfl (fun hc => ?_) (fun hc => ?_)
      · replace h := (if_pos hc).symm.trans h
        refine px_ic (k := 1) rfl rfl rfl ?_
        exact (r_Link_openParts_73 @ih h :)
      · replace h := (if_neg hc).symm.trans h
        refine px_ic (k := 0) rfl rfl rfl ?_
        refine px_goto rfl (by decide) rfl ?_
        exact (r_Link_openParts_73 @ih h :)
def f_Link_openParts (F : Nat) (c : px_CT) (a0 : Nat) (a1 : Int32) (a2 : Option Nat) (ph : px_H) : Option (Unit × px_H) :=
  f_Link_openParts_2 F c F a0 a1 a2 (nI 0) ph
theorem r_Link_openParts {l : Launch} {g : px_G} {d F : Nat} {a0 : Nat} {a1 : Int32} {a2 : Option Nat} {ph : px_H} {r : Unit} {ph' : px_H} (h : f_Link_openParts F (px_ct g) a0 a1 a2 ph = some (r, ph')) : PW l g (d + 2) m_Link_openParts 0 [.ref a0, .int a1, va_rf a2, px_u, px_u, px_u] [] ph (px_qV r ph') := by
  unfold f_Link_openParts at h
  refine px_ic (k := 0) rfl rfl rfl ?_
  refine px_st (lv' := [.ref a0, .int a1, va_rf a2, .int (nI 0), px_u, px_u]) rfl rfl rfl rfl (by first | rfl | (cases a2 <;> rfl)) rfl rfl ?_
  exact (r_Link_openParts_2 _ h :)
def f_ObjectFile_bindOf_35 (F : Nat) (c : px_CT) (s0 : Int32) (ph : px_H) : Option (Int32 × px_H) :=
  some (s0, ph)
theorem r_ObjectFile_bindOf_35 {l : Launch} {g : px_G} {d F : Nat} {s0 : Int32} {ph : px_H} {r : Int32} {ph' : px_H} (h : f_ObjectFile_bindOf_35 F (px_ct g) s0 ph = some (r, ph')) : PW l g (d + 1) m_ObjectFile_bindOf 35 [px_u, px_u] [.int s0] ph (px_qI r ph') := by
  unfold f_ObjectFile_bindOf_35 at h
  cases h
  exact px_iret rfl (Or.inl rfl) rfl ⟨rfl, rfl⟩
def f_ObjectFile_bindOf_12 (F : Nat) (c : px_CT) (ph : px_H) : Option (Int32 × px_H) :=
  f_ObjectFile_bindOf_35 F c (nI 0) ph
theorem r_ObjectFile_bindOf_12 {l : Launch} {g : px_G} {d F : Nat} {ph : px_H} {r : Int32} {ph' : px_H} (h : f_ObjectFile_bindOf_12 F (px_ct g) ph = some (r, ph')) : PW l g (d + 1) m_ObjectFile_bindOf 12 [px_u, px_u] [] ph (px_qI r ph') := by
  unfold f_ObjectFile_bindOf_12 at h
  refine px_ic (k := 0) rfl rfl rfl ?_
  refine px_goto rfl rfl rfl ?_
  exact (r_ObjectFile_bindOf_35 h :)
def f_ObjectFile_bindOf (F : Nat) (c : px_CT) (a0 : Nat) (a1 : Int32) (ph : px_H) : Option (Int32 × px_H) :=
  if a1 ≤ 0 then
    f_ObjectFile_bindOf_12 F c ph
  else
    (xgI ph 7 11 a0).bind fun t1 =>
    if a1 < t1 then
      (xgI ph 7 10 a0).bind fun t2 =>
      (xo ph 7 a0).bind fun _ =>
      xb (f_ObjectFile_num F c a0 ((t2 + ((nI 24) * a1)) + (nI 4)) (nI 1) ph) fun t3 ph4 =>
      f_ObjectFile_bindOf_35 F c (t3.toInt32 >>> ((nI 4) &&& 31)) ph4
    else
      f_ObjectFile_bindOf_12 F c ph
theorem r_ObjectFile_bindOf {l : Launch} {g : px_G} {d F : Nat} {a0 : Nat} {a1 : Int32} {ph : px_H} {r : Int32} {ph' : px_H} (h : f_ObjectFile_bindOf F (px_ct g) a0 a1 ph = some (r, ph')) : PW l g (d + 1) m_ObjectFile_bindOf 0 [.ref a0, .int a1] [] ph (px_qI r ph') := by
  unfold f_ObjectFile_bindOf at h
  refine px_ld rfl rfl rfl rfl rfl ?_
  refine px_ifle rfl rfl rfl (fun hc => ?_) (fun hc => ?_)
  · replace h := (if_pos hc).symm.trans h
    refine px_forget (n := 0) (lv' := [_, _]) rfl ?_
    refine px_forget (n := 1) (lv' := [_, _]) rfl ?_
    exact (r_ObjectFile_bindOf_12 h :)
  · replace h := (if_neg hc).symm.trans h
    refine px_ld rfl rfl rfl rfl rfl ?_
    refine px_ld rfl rfl rfl rfl rfl ?_
    obtain ⟨t1, h0, h⟩ := xs_some h
    obtain ⟨fs, e1, e2⟩ := xgI_some h0
    refine px_get rfl e1 e2 rfl ?_
    refine px_iclt rfl rfl rfl (fun hc => ?_) (fun hc => ?_)
    · replace h := (if_pos hc).symm.trans h
      refine px_ld rfl rfl rfl rfl rfl ?_
      refine px_ld rfl rfl rfl rfl rfl ?_
      obtain ⟨t2, h0, h⟩ := xs_some h
      obtain ⟨fs, e1, e2⟩ := xgI_some h0
      refine px_get rfl e1 e2 rfl ?_
      refine px_ic (k := 24) rfl rfl rfl ?_
      refine px_ld rfl rfl rfl rfl rfl ?_
      refine px_alu rfl rfl rfl ?_
      refine px_alu rfl rfl rfl ?_
      refine px_ic (k := 4) rfl rfl rfl ?_
      refine px_alu rfl rfl rfl ?_
      refine px_ic (k := 1) rfl rfl rfl ?_
      obtain ⟨fs, h0, h⟩ := xs_some h
      have e1 := xo_some h0
      obtain ⟨t3, ph4, h0, h⟩ := xb_some h
      refine px_cV2 rfl rfl e1 rfl rfl rfl rfl rfl rfl rfl (r_ObjectFile_num h0 :) (fun _ _ q => nomatch q.2) (fun r ph' q => ?_)
      obtain ⟨rfl, q⟩ := q
      cases q
      refine px_alu rfl rfl rfl ?_
      refine px_ic (k := 4) rfl rfl rfl ?_
      refine px_alu rfl rfl rfl ?_
      refine px_forget (n := 0) (lv' := [_, _]) rfl ?_
      refine px_forget (n := 1) (lv' := [_, _]) rfl ?_
      exact (r_ObjectFile_bindOf_35 h :)
    · replace h := (if_neg hc).symm.trans h
      refine px_forget (n := 0) (lv' := [_, _]) rfl ?_
      refine px_forget (n := 1) (lv' := [_, _]) rfl ?_
      exact (r_ObjectFile_bindOf_12 h :)
def f_ObjectFile_nameStart (F : Nat) (c : px_CT) (a0 : Nat) (a1 : Int32) (ph : px_H) : Option (Int32 × px_H) :=
  (xgI ph 7 5 a0).bind fun t1 =>
  (xgI ph 7 12 a0).bind fun t2 =>
  (xgI ph 7 10 a0).bind fun t3 =>
  (xo ph 7 a0).bind fun _ =>
  xb (f_ObjectFile_num F c a0 (t3 + ((nI 24) * a1)) (nI 4) ph) fun t4 ph5 =>
  some ((t1 + t2) + t4.toInt32, ph5)
theorem r_ObjectFile_nameStart {l : Launch} {g : px_G} {d F : Nat} {a0 : Nat} {a1 : Int32} {ph : px_H} {r : Int32} {ph' : px_H} (h : f_ObjectFile_nameStart F (px_ct g) a0 a1 ph = some (r, ph')) : PW l g (d + 1) m_ObjectFile_nameStart 0 [.ref a0, .int a1] [] ph (px_qI r ph') := by
  unfold f_ObjectFile_nameStart at h
  refine px_ld rfl rfl rfl rfl rfl ?_
  obtain ⟨t1, h0, h⟩ := xs_some h
  obtain ⟨fs, e1, e2⟩ := xgI_some h0
  refine px_get rfl e1 e2 rfl ?_
  refine px_ld rfl rfl rfl rfl rfl ?_
  obtain ⟨t2, h0, h⟩ := xs_some h
  obtain ⟨fs, e1, e2⟩ := xgI_some h0
  refine px_get rfl e1 e2 rfl ?_
  refine px_alu rfl rfl rfl ?_
  refine px_ld rfl rfl rfl rfl rfl ?_
  refine px_ld rfl rfl rfl rfl rfl ?_
  obtain ⟨t3, h0, h⟩ := xs_some h
  obtain ⟨fs, e1, e2⟩ := xgI_some h0
  refine px_get rfl e1 e2 rfl ?_
  refine px_ic (k := 24) rfl rfl rfl ?_
  refine px_ld rfl rfl rfl rfl rfl ?_
  refine px_alu rfl rfl rfl ?_
  refine px_alu rfl rfl rfl ?_
  refine px_ic (k := 4) rfl rfl rfl ?_
  obtain ⟨fs, h0, h⟩ := xs_some h
  have e1 := xo_some h0
  obtain ⟨t4, ph5, h0, h⟩ := xb_some h
  refine px_cV2 rfl rfl e1 rfl rfl rfl rfl rfl rfl rfl (r_ObjectFile_num h0 :) (fun _ _ q => nomatch q.2) (fun r ph' q => ?_)
  obtain ⟨rfl, q⟩ := q
  cases q
  refine px_alu rfl rfl rfl ?_
  refine px_alu rfl rfl rfl ?_
  cases h
  exact px_iret rfl (Or.inl rfl) rfl ⟨rfl, rfl⟩
def f_Name_wipe (F : Nat) (c : px_CT) (a0 : Nat) (ph : px_H) : Option (Unit × px_H) :=
  (xpJ ph 5 0 a0 (lN 0)).bind fun ph1 =>
  (xpJ ph1 5 1 a0 (lN 0)).bind fun ph2 =>
  (xpJ ph2 5 2 a0 (lN 0)).bind fun ph3 =>
  (xpI ph3 5 3 a0 (nI 0)).bind fun ph4 =>
  some ((), ph4)
theorem r_Name_wipe {l : Launch} {g : px_G} {d F : Nat} {a0 : Nat} {ph : px_H} {r : Unit} {ph' : px_H} (h : f_Name_wipe F (px_ct g) a0 ph = some (r, ph')) : PW l g (d + 0) m_Name_wipe 0 [.ref a0] [] ph (px_qV r ph') := by
  unfold f_Name_wipe at h
  refine px_ld rfl rfl rfl rfl rfl ?_
  refine px_alu rfl rfl rfl ?_
  obtain ⟨ph1, h0, h⟩ := xs_some h
  obtain ⟨fs, e1, e2, e3⟩ := xpJ_some h0
  subst e3
  refine px_put rfl e1 e2 trivial rfl ?_
  refine px_ld rfl rfl rfl rfl rfl ?_
  refine px_alu rfl rfl rfl ?_
  obtain ⟨ph2, h0, h⟩ := xs_some h
  obtain ⟨fs, e1, e2, e3⟩ := xpJ_some h0
  subst e3
  refine px_put rfl e1 e2 trivial rfl ?_
  refine px_ld rfl rfl rfl rfl rfl ?_
  refine px_alu rfl rfl rfl ?_
  obtain ⟨ph3, h0, h⟩ := xs_some h
  obtain ⟨fs, e1, e2, e3⟩ := xpJ_some h0
  subst e3
  refine px_put rfl e1 e2 trivial rfl ?_
  refine px_ld rfl rfl rfl rfl rfl ?_
  refine px_ic (k := 0) rfl rfl rfl ?_
  obtain ⟨ph4, h0, h⟩ := xs_some h
  obtain ⟨fs, e1, e2, e3⟩ := xpI_some h0
  subst e3
  refine px_put rfl e1 e2 trivial rfl ?_
  cases h
  exact px_vret rfl rfl rfl ⟨rfl, rfl⟩
def f_Row_at_26 (F : Nat) (c : px_CT) (s0 : Int32) (ph : px_H) : Option (Int32 × px_H) :=
  some (s0, ph)
theorem r_Row_at_26 {l : Launch} {g : px_G} {d F : Nat} {s0 : Int32} {ph : px_H} {r : Int32} {ph' : px_H} (h : f_Row_at_26 F (px_ct g) s0 ph = some (r, ph')) : PW l g (d + 0) m_Row_at 26 [px_u, px_u] [.int s0] ph (px_qI r ph') := by
  unfold f_Row_at_26 at h
  cases h
  exact px_iret rfl (Or.inl rfl) rfl ⟨rfl, rfl⟩
def f_Row_at_25 (F : Nat) (c : px_CT) (ph : px_H) : Option (Int32 × px_H) :=
  f_Row_at_26 F c (nI 0) ph
theorem r_Row_at_25 {l : Launch} {g : px_G} {d F : Nat} {ph : px_H} {r : Int32} {ph' : px_H} (h : f_Row_at_25 F (px_ct g) ph = some (r, ph')) : PW l g (d + 0) m_Row_at 25 [px_u, px_u] [] ph (px_qI r ph') := by
  unfold f_Row_at_25 at h
  refine px_ic (k := 0) rfl rfl rfl ?_
  exact (r_Row_at_26 h :)
def f_Row_at (F : Nat) (c : px_CT) (a0 : Nat) (a1 : Int32) (ph : px_H) : Option (Int32 × px_H) :=
  if a1 < 0 then
    f_Row_at_25 F c ph
  else
    (xgI ph 10 1 a0).bind fun t1 =>
    if t1 ≤ a1 then
      f_Row_at_25 F c ph
    else
      (xgR ph 10 0 a0).bind fun t2 =>
      (xaI ph 0 t2 a1).bind fun t3 =>
      f_Row_at_26 F c (t3 &&& (nI 255)) ph
theorem r_Row_at {l : Launch} {g : px_G} {d F : Nat} {a0 : Nat} {a1 : Int32} {ph : px_H} {r : Int32} {ph' : px_H} (h : f_Row_at F (px_ct g) a0 a1 ph = some (r, ph')) : PW l g (d + 0) m_Row_at 0 [.ref a0, .int a1] [] ph (px_qI r ph') := by
  unfold f_Row_at at h
  refine px_ld rfl rfl rfl rfl rfl ?_
  refine px_iflt rfl rfl rfl (fun hc => ?_) (fun hc => ?_)
  · replace h := (if_pos hc).symm.trans h
    refine px_forget (n := 0) (lv' := [_, _]) rfl ?_
    refine px_forget (n := 1) (lv' := [_, _]) rfl ?_
    exact (r_Row_at_25 h :)
  · replace h := (if_neg hc).symm.trans h
    refine px_ld rfl rfl rfl rfl rfl ?_
    refine px_ld rfl rfl rfl rfl rfl ?_
    obtain ⟨t1, h0, h⟩ := xs_some h
    obtain ⟨fs, e1, e2⟩ := xgI_some h0
    refine px_get rfl e1 e2 rfl ?_
    refine px_icge rfl rfl rfl (fun hc => ?_) (fun hc => ?_)
    · replace h := (if_pos hc).symm.trans h
      refine px_forget (n := 0) (lv' := [_, _]) rfl ?_
      refine px_forget (n := 1) (lv' := [_, _]) rfl ?_
      exact (r_Row_at_25 h :)
    · replace h := (if_neg hc).symm.trans h
      refine px_ld rfl rfl rfl rfl rfl ?_
      obtain ⟨t2, h0, h⟩ := xs_some h
      obtain ⟨fs, e1, e2⟩ := xgR_some h0
      refine px_get rfl e1 e2 rfl ?_
      refine px_ld rfl rfl rfl rfl rfl ?_
      obtain ⟨t3, h0, h⟩ := xs_some h
      obtain ⟨N, f, e1, e2, e3⟩ := xaI_some h0
      subst e3
      refine px_bald rfl e1 rfl e2 rfl ?_
      refine px_ic (k := 255) rfl rfl rfl ?_
      refine px_alu rfl rfl rfl ?_
      refine px_goto rfl rfl rfl ?_
      refine px_forget (n := 0) (lv' := [_, _]) rfl ?_
      refine px_forget (n := 1) (lv' := [_, _]) rfl ?_
      exact (r_Row_at_26 h :)
def f_Name_append_72 (F : Nat) (c : px_CT) (a0 : Nat) (ph : px_H) : Option (Unit × px_H) :=
  (xgI ph 5 3 a0).bind fun t1 =>
  (xpI ph 5 3 a0 (t1 + (nI 1))).bind fun ph2 =>
  some ((), ph2)
theorem r_Name_append_72 {l : Launch} {g : px_G} {d F : Nat} {a0 : Nat} {ph : px_H} {r : Unit} {ph' : px_H} (h : f_Name_append_72 F (px_ct g) a0 ph = some (r, ph')) : PW l g (d + 0) m_Name_append 72 [.ref a0, px_u, px_u, px_u] [] ph (px_qV r ph') := by
  unfold f_Name_append_72 at h
  refine px_ld rfl rfl rfl rfl rfl ?_
  refine px_alu rfl rfl rfl ?_
  obtain ⟨t1, h0, h⟩ := xs_some h
  obtain ⟨fs, e1, e2⟩ := xgI_some h0
  refine px_get rfl e1 e2 rfl ?_
  refine px_ic (k := 1) rfl rfl rfl ?_
  refine px_alu rfl rfl rfl ?_
  obtain ⟨ph2, h0, h⟩ := xs_some h
  obtain ⟨fs, e1, e2, e3⟩ := xpI_some h0
  subst e3
  refine px_put rfl e1 e2 trivial rfl ?_
  cases h
  exact px_vret rfl rfl rfl ⟨rfl, rfl⟩
def f_Name_append (F : Nat) (c : px_CT) (a0 : Nat) (a1 : Int32) (ph : px_H) : Option (Unit × px_H) :=
  (xgI ph 5 3 a0).bind fun t1 =>
  (xgI ph 5 3 a0).bind fun t2 =>
  if (nI 8) ≤ t2 then
    (xgI ph 5 3 a0).bind fun t3 =>
    if (nI 16) ≤ t3 then
      (xgJ ph 5 2 a0).bind fun t4 =>
      (xpJ ph 5 2 a0 (t4 ||| (((a1 &&& (nI 255)).toInt64) <<< (((nI 8) * (t1 &&& (nI 7))).toInt64 &&& 63)))).bind fun ph5 =>
      f_Name_append_72 F c a0 ph5
    else
      (xgJ ph 5 1 a0).bind fun t6 =>
      (xpJ ph 5 1 a0 (t6 ||| (((a1 &&& (nI 255)).toInt64) <<< (((nI 8) * (t1 &&& (nI 7))).toInt64 &&& 63)))).bind fun ph7 =>
      f_Name_append_72 F c a0 ph7
  else
    (xgJ ph 5 0 a0).bind fun t8 =>
    (xpJ ph 5 0 a0 (t8 ||| (((a1 &&& (nI 255)).toInt64) <<< (((nI 8) * (t1 &&& (nI 7))).toInt64 &&& 63)))).bind fun ph9 =>
    f_Name_append_72 F c a0 ph9
theorem r_Name_append {l : Launch} {g : px_G} {d F : Nat} {a0 : Nat} {a1 : Int32} {ph : px_H} {r : Unit} {ph' : px_H} (h : f_Name_append F (px_ct g) a0 a1 ph = some (r, ph')) : PW l g (d + 0) m_Name_append 0 [.ref a0, .int a1, px_u, px_u] [] ph (px_qV r ph') := by
  unfold f_Name_append at h
  refine px_ld rfl rfl rfl rfl rfl ?_
  refine px_ic (k := 255) rfl rfl rfl ?_
  refine px_alu rfl rfl rfl ?_
  refine px_alu rfl rfl rfl ?_
  refine px_ic (k := 8) rfl rfl rfl ?_
  refine px_ld rfl rfl rfl rfl rfl ?_
  obtain ⟨t1, h0, h⟩ := xs_some h
  obtain ⟨fs, e1, e2⟩ := xgI_some h0
  refine px_get rfl e1 e2 rfl ?_
  refine px_ic (k := 7) rfl rfl rfl ?_
  refine px_alu rfl rfl rfl ?_
  refine px_alu rfl rfl rfl ?_
  refine px_alu rfl rfl rfl ?_
  refine px_st (lv' := [_, _, _, _]) rfl rfl rfl rfl rfl rfl rfl ?_
  refine px_ld rfl rfl rfl rfl rfl ?_
  obtain ⟨t2, h0, h⟩ := xs_some h
  obtain ⟨fs, e1, e2⟩ := xgI_some h0
  refine px_get rfl e1 e2 rfl ?_
  refine px_ic (k := 8) rfl rfl rfl ?_
  refine px_icge rfl rfl rfl (fun hc => ?_) (fun hc => ?_)
  · replace h := (if_pos hc).symm.trans h
    refine px_ld rfl rfl rfl rfl rfl ?_
    obtain ⟨t3, h0, h⟩ := xs_some h
    obtain ⟨fs, e1, e2⟩ := xgI_some h0
    refine px_get rfl e1 e2 rfl ?_
    refine px_ic (k := 16) rfl rfl rfl ?_
    refine px_icge rfl rfl rfl (fun hc => ?_) (fun hc => ?_)
    · replace h := (if_pos hc).symm.trans h
      refine px_ld rfl rfl rfl rfl rfl ?_
      refine px_alu rfl rfl rfl ?_
      obtain ⟨t4, h0, h⟩ := xs_some h
      obtain ⟨fs, e1, e2⟩ := xgJ_some h0
      refine px_get rfl e1 e2 rfl ?_
      refine px_ld rfl rfl rfl rfl rfl ?_
      refine px_alu rfl rfl rfl ?_
      obtain ⟨ph5, h0, h⟩ := xs_some h
      obtain ⟨fs, e1, e2, e3⟩ := xpJ_some h0
      subst e3
      refine px_put rfl e1 e2 trivial rfl ?_
      refine px_forget (n := 1) (lv' := [_, _, _, _]) rfl ?_
      refine px_forget (n := 2) (lv' := [_, _, _, _]) rfl ?_
      exact (r_Name_append_72 h :)
    · replace h := (if_neg hc).symm.trans h
      refine px_ld rfl rfl rfl rfl rfl ?_
      refine px_alu rfl rfl rfl ?_
      obtain ⟨t6, h0, h⟩ := xs_some h
      obtain ⟨fs, e1, e2⟩ := xgJ_some h0
      refine px_get rfl e1 e2 rfl ?_
      refine px_ld rfl rfl rfl rfl rfl ?_
      refine px_alu rfl rfl rfl ?_
      obtain ⟨ph7, h0, h⟩ := xs_some h
      obtain ⟨fs, e1, e2, e3⟩ := xpJ_some h0
      subst e3
      refine px_put rfl e1 e2 trivial rfl ?_
      refine px_goto rfl rfl rfl ?_
      refine px_forget (n := 1) (lv' := [_, _, _, _]) rfl ?_
      refine px_forget (n := 2) (lv' := [_, _, _, _]) rfl ?_
      exact (r_Name_append_72 h :)
  · replace h := (if_neg hc).symm.trans h
    refine px_ld rfl rfl rfl rfl rfl ?_
    refine px_alu rfl rfl rfl ?_
    obtain ⟨t8, h0, h⟩ := xs_some h
    obtain ⟨fs, e1, e2⟩ := xgJ_some h0
    refine px_get rfl e1 e2 rfl ?_
    refine px_ld rfl rfl rfl rfl rfl ?_
    refine px_alu rfl rfl rfl ?_
    obtain ⟨ph9, h0, h⟩ := xs_some h
    obtain ⟨fs, e1, e2, e3⟩ := xpJ_some h0
    subst e3
    refine px_put rfl e1 e2 trivial rfl ?_
    refine px_goto rfl rfl rfl ?_
    refine px_forget (n := 1) (lv' := [_, _, _, _]) rfl ?_
    refine px_forget (n := 2) (lv' := [_, _, _, _]) rfl ?_
    exact (r_Name_append_72 h :)
def f_Name_read_39 (F : Nat) (c : px_CT) (ph : px_H) : Option (Unit × px_H) :=
  some ((), ph)
theorem r_Name_read_39 {l : Launch} {g : px_G} {d F : Nat} {ph : px_H} {r : Unit} {ph' : px_H} (h : f_Name_read_39 F (px_ct g) ph = some (r, ph')) : PW l g (d + 1) m_Name_read 39 [px_u, px_u, px_u, px_u] [] ph (px_qV r ph') := by
  unfold f_Name_read_39 at h
  cases h
  exact px_vret rfl rfl rfl ⟨rfl, rfl⟩
def f_Name_read_6 (F : Nat) (c : px_CT) : Nat → Nat → Nat → Int32 → Int32 → px_H → Option (Unit × px_H)
  | 0, _, _, _, _, _ => none
  | n + 1, a0, a1, a2, a3, ph =>
    if (nI 20) ≤ a3 then
      f_Name_read_39 F c ph
    else
      (xo ph 10 a1).bind fun _ =>
      xb (f_Row_at F c a1 (a2 + a3) ph) fun t1 ph2 =>
      if t1 = 0 then
        f_Name_read_39 F c ph2
      else
        (xo ph2 10 a1).bind fun _ =>
        xb (f_Row_at F c a1 (a2 + a3) ph2) fun t3 ph4 =>
        (xo ph4 5 a0).bind fun _ =>
        xb (f_Name_append F c a0 t3 ph4) fun _ ph5 =>
        f_Name_read_6 F c n a0 a1 a2 (a3 + nI 1) ph5
theorem r_Name_read_6 {l : Launch} {g : px_G} {d F : Nat} : ∀ (n : Nat) {a0 : Nat} {a1 : Nat} {a2 : Int32} {a3 : Int32} {ph : px_H} {r : Unit} {ph' : px_H}, f_Name_read_6 F (px_ct g) n a0 a1 a2 a3 ph = some (r, ph') → PW l g (d + 1) m_Name_read 6 [.ref a0, .ref a1, .int a2, .int a3] [] ph (px_qV r ph') := by
  intro n
  induction n with
  | zero => intro _ _ _ _ _ _ _ h; cases h
  | succ n ih =>
    intro a0 a1 a2 a3 ph r ph' h
    unfold f_Name_read_6 at h
    refine px_ld rfl rfl rfl rfl rfl ?_
    refine px_ic (k := 20) rfl rfl rfl ?_
    refine px_icge rfl rfl rfl (fun hc => ?_) (fun hc => ?_)
    · replace h := (if_pos hc).symm.trans h
      refine px_forget (n := 0) (lv' := [_, _, _, _]) rfl ?_
      refine px_forget (n := 1) (lv' := [_, _, _, _]) rfl ?_
      refine px_forget (n := 2) (lv' := [_, _, _, _]) rfl ?_
      refine px_forget (n := 3) (lv' := [_, _, _, _]) rfl ?_
      exact (r_Name_read_39 h :)
    · replace h := (if_neg hc).symm.trans h
      refine px_ld rfl rfl rfl rfl rfl ?_
      refine px_ld rfl rfl rfl rfl rfl ?_
      refine px_ld rfl rfl rfl rfl rfl ?_
      refine px_alu rfl rfl rfl ?_
      obtain ⟨fs, h0, h⟩ := xs_some h
      have e1 := xo_some h0
      obtain ⟨t1, ph2, h0, h⟩ := xb_some h
      refine px_cV1 rfl rfl e1 rfl rfl rfl rfl rfl rfl rfl (r_Row_at h0 :) (fun _ _ q => nomatch q.2) (fun r ph' q => ?_)
      obtain ⟨rfl, q⟩ := q
      cases q
      refine px_ifeq rfl rfl rfl (fun hc => ?_) (fun hc => ?_)
      · replace h := (if_pos hc).symm.trans h
        refine px_forget (n := 0) (lv' := [_, _, _, _]) rfl ?_
        refine px_forget (n := 1) (lv' := [_, _, _, _]) rfl ?_
        refine px_forget (n := 2) (lv' := [_, _, _, _]) rfl ?_
        refine px_forget (n := 3) (lv' := [_, _, _, _]) rfl ?_
        exact (r_Name_read_39 h :)
      · replace h := (if_neg hc).symm.trans h
        refine px_ld rfl rfl rfl rfl rfl ?_
        refine px_ld rfl rfl rfl rfl rfl ?_
        refine px_ld rfl rfl rfl rfl rfl ?_
        refine px_ld rfl rfl rfl rfl rfl ?_
        refine px_alu rfl rfl rfl ?_
        obtain ⟨fs, h0, h⟩ := xs_some h
        have e1 := xo_some h0
        obtain ⟨t3, ph4, h0, h⟩ := xb_some h
        refine px_cV1 rfl rfl e1 rfl rfl rfl rfl rfl rfl rfl (r_Row_at h0 :) (fun _ _ q => nomatch q.2) (fun r ph' q => ?_)
        obtain ⟨rfl, q⟩ := q
        cases q
        obtain ⟨fs, h0, h⟩ := xs_some h
        have e1 := xo_some h0
        obtain ⟨u0, ph5, h0, h⟩ := xb_some h
        refine px_cV1 rfl rfl e1 rfl rfl rfl rfl rfl rfl rfl (r_Name_append h0 :) (fun _ _ q => nomatch q.2) (fun r ph' q => ?_)
        obtain ⟨rfl, q⟩ := q
        cases q
        refine px_iinc (lv' := [_, _, _, _]) rfl rfl rfl rfl rfl rfl ?_
        refine px_goto rfl rfl rfl ?_
        exact (ih h :)
def f_Name_read (F : Nat) (c : px_CT) (a0 : Nat) (a1 : Nat) (a2 : Int32) (ph : px_H) : Option (Unit × px_H) :=
  (xo ph 5 a0).bind fun _ =>
  xb (f_Name_wipe F c a0 ph) fun _ ph1 =>
  f_Name_read_6 F c F a0 a1 a2 (nI 0) ph1
theorem r_Name_read {l : Launch} {g : px_G} {d F : Nat} {a0 : Nat} {a1 : Nat} {a2 : Int32} {ph : px_H} {r : Unit} {ph' : px_H} (h : f_Name_read F (px_ct g) a0 a1 a2 ph = some (r, ph')) : PW l g (d + 1) m_Name_read 0 [.ref a0, .ref a1, .int a2, px_u] [] ph (px_qV r ph') := by
  unfold f_Name_read at h
  refine px_ld rfl rfl rfl rfl rfl ?_
  obtain ⟨fs, h0, h⟩ := xs_some h
  have e1 := xo_some h0
  obtain ⟨u0, ph1, h0, h⟩ := xb_some h
  refine px_cV0 rfl rfl e1 rfl rfl rfl rfl rfl rfl rfl (r_Name_wipe h0 :) (fun _ _ q => nomatch q.2) (fun r ph' q => ?_)
  obtain ⟨rfl, q⟩ := q
  cases q
  refine px_ic (k := 0) rfl rfl rfl ?_
  refine px_st (lv' := [_, _, _, _]) rfl rfl rfl rfl rfl rfl rfl ?_
  exact (r_Name_read_6 _ h :)
def f_Link_enterNames_67 (F : Nat) (c : px_CT) (ph : px_H) : Option (Unit × px_H) :=
  some ((), ph)
theorem r_Link_enterNames_67 {l : Launch} {g : px_G} {d F : Nat} {ph : px_H} {r : Unit} {ph' : px_H} (h : f_Link_enterNames_67 F (px_ct g) ph = some (r, ph')) : PW l g (d + 3) m_Link_enterNames 67 [px_u, px_u, px_u, px_u, px_u] [] ph (px_qV r ph') := by
  unfold f_Link_enterNames_67 at h
  cases h
  exact px_vret rfl rfl rfl ⟨rfl, rfl⟩
def f_Link_enterNames_48 (F : Nat) (c : px_CT) (k2 : Nat → Int32 → Option Nat → Int32 → px_H → Option (Unit × px_H)) (a0 : Nat) (a1 : Int32) (a2 : Option Nat) (a3 : Int32) (a4 : Option Nat) (ph : px_H) : Option (Unit × px_H) :=
  (xgR ph 3 8 a0).bind fun t1 =>
  (xsO ph 5 5 t1 ((a1 * (nI 64)) + a3) a4).bind fun ph2 =>
  k2 a0 a1 a2 (a3 + nI 1) ph2
theorem r_Link_enterNames_48 {l : Launch} {g : px_G} {d F : Nat} {k2 : Nat → Int32 → Option Nat → Int32 → px_H → Option (Unit × px_H)} (hk2 : ∀ {a0 : Nat} {a1 : Int32} {a2 : Option Nat} {a3 : Int32} {ph : px_H} {r : Unit} {ph' : px_H}, k2 a0 a1 a2 a3 ph = some (r, ph') → PW l g (d + 3) m_Link_enterNames 2 [.ref a0, .int a1, va_rf a2, .int a3, px_u] [] ph (px_qV r ph')) {a0 : Nat} {a1 : Int32} {a2 : Option Nat} {a3 : Int32} {a4 : Option Nat} {ph : px_H} {r : Unit} {ph' : px_H} (h : f_Link_enterNames_48 F (px_ct g) k2 a0 a1 a2 a3 a4 ph = some (r, ph')) : PW l g (d + 3) m_Link_enterNames 48 [.ref a0, .int a1, va_rf a2, .int a3, va_rf a4] [] ph (px_qV r ph') := by
  unfold f_Link_enterNames_48 at h
  refine px_ld rfl rfl rfl rfl rfl ?_
  obtain ⟨t1, h0, h⟩ := xs_some h
  obtain ⟨fs, e1, e2⟩ := xgR_some h0
  refine px_get rfl e1 e2 rfl ?_
  refine px_ld rfl rfl rfl rfl rfl ?_
  refine px_ic (k := 64) rfl rfl rfl ?_
  refine px_alu rfl rfl rfl ?_
  refine px_ld rfl rfl rfl rfl rfl ?_
  refine px_alu rfl rfl rfl ?_
  refine px_ld rfl rfl rfl (by first | rfl | (cases a4 <;> rfl)) rfl ?_
  obtain ⟨ph2, h0, h⟩ := xs_some h
  obtain ⟨N, f, e1, e2, e3, e4⟩ := xsO_some h0
  subst e3
  refine px_aastO (o := a4) rfl e1 rfl e4 rfl e2 rfl ?_
  refine px_iinc (lv' := [_, _, _, _, _]) rfl rfl rfl (by first | rfl | (cases a2 <;> rfl)) rfl rfl ?_
  refine px_goto rfl rfl rfl ?_
  refine px_forget (n := 4) (lv' := [_, _, _, _, _]) rfl ?_
  exact (hk2 h :)
def f_Link_enterNames_2 (F : Nat) (c : px_CT) : Nat → Nat → Int32 → Option Nat → Int32 → px_H → Option (Unit × px_H)
  | 0, _, _, _, _, _ => none
  | n + 1, a0, a1, a2, a3, ph =>
    if (nI 64) ≤ a3 then
      f_Link_enterNames_67 F c ph
    else
      (a2).bind fun p1 =>
      (xo ph 7 p1).bind fun _ =>
      xb (f_ObjectFile_bindOf F c p1 a3 ph) fun t2 ph3 =>
      if t2 = 0 then
        f_Link_enterNames_48 F c (f_Link_enterNames_2 F c n) a0 a1 (some p1) a3 none ph3
      else
        (xgR ph3 3 11 a0).bind fun t4 =>
        (xgR ph3 7 0 p1).bind fun t5 =>
        (xo ph3 7 p1).bind fun _ =>
        xb (f_ObjectFile_nameStart F c p1 a3 ph3) fun t6 ph7 =>
        (xo ph7 5 t4).bind fun _ =>
        xb (f_Name_read F c t4 t5 t6 ph7) fun _ ph8 =>
        (xgR ph8 3 3 a0).bind fun t9 =>
        (xgR ph8 3 11 a0).bind fun t10 =>
        (xo ph8 6 t9).bind fun _ =>
        xb (f_Names_enter F c t9 (some t10) ph8) fun t11 ph12 =>
        f_Link_enterNames_48 F c (f_Link_enterNames_2 F c n) a0 a1 (some p1) a3 t11 ph12
theorem r_Link_enterNames_2 {l : Launch} {g : px_G} {d F : Nat} : ∀ (n : Nat) {a0 : Nat} {a1 : Int32} {a2 : Option Nat} {a3 : Int32} {ph : px_H} {r : Unit} {ph' : px_H}, f_Link_enterNames_2 F (px_ct g) n a0 a1 a2 a3 ph = some (r, ph') → PW l g (d + 3) m_Link_enterNames 2 [.ref a0, .int a1, va_rf a2, .int a3, px_u] [] ph (px_qV r ph') := by
  intro n
  induction n with
  | zero => intro _ _ _ _ _ _ _ h; cases h
  | succ n ih =>
    intro a0 a1 a2 a3 ph r ph' h
    unfold f_Link_enterNames_2 at h
    refine px_ld rfl rfl rfl rfl rfl ?_
    refine px_ic (k := 64) rfl rfl rfl ?_
    refine px_icge rfl rfl rfl (fun hc => ?_) (fun hc => ?_)
    · replace h := (if_pos hc).symm.trans h
      refine px_forget (n := 0) (lv' := [_, _, _, _, _]) rfl ?_
      refine px_forget (n := 1) (lv' := [_, _, _, _, _]) rfl ?_
      refine px_forget (n := 2) (lv' := [_, _, _, _, _]) rfl ?_
      refine px_forget (n := 3) (lv' := [_, _, _, _, _]) rfl ?_
      exact (r_Link_enterNames_67 h :)
    · replace h := (if_neg hc).symm.trans h
      refine px_alu rfl rfl rfl ?_
      refine px_st (lv' := [.ref a0, .int a1, va_rf a2, .int a3, va_rf none]) rfl rfl (by first | rfl | (cases none <;> rfl)) (by first | rfl | (cases none <;> rfl)) rfl (by first | rfl | (cases none <;> rfl)) rfl ?_
      refine px_ld rfl rfl rfl (by first | rfl | (cases a2 <;> rfl)) rfl ?_
      refine px_ld rfl rfl rfl rfl rfl ?_
      obtain ⟨p1, h0, h⟩ := xs_some h
      revert h
      subst h0
      intro h
      obtain ⟨fs, h0, h⟩ := xs_some h
      have e1 := xo_some h0
      obtain ⟨t2, ph3, h0, h⟩ := xb_some h
      refine px_cV1 rfl rfl e1 rfl rfl rfl rfl rfl rfl rfl (r_ObjectFile_bindOf h0 :) (fun _ _ q => nomatch q.2) (fun r ph' q => ?_)
      obtain ⟨rfl, q⟩ := q
      cases q
      refine px_ifeq rfl rfl rfl (fun hc => ?_) (fun hc => ?_)
      · replace h := (if_pos hc).symm.trans h
        exact (r_Link_enterNames_48 @ih h :)
      · replace h := (if_neg hc).symm.trans h
        refine px_ld rfl rfl rfl rfl rfl ?_
        obtain ⟨t4, h0, h⟩ := xs_some h
        obtain ⟨fs, e1, e2⟩ := xgR_some h0
        refine px_get rfl e1 e2 rfl ?_
        refine px_ld rfl rfl rfl rfl rfl ?_
        obtain ⟨t5, h0, h⟩ := xs_some h
        obtain ⟨fs, e1, e2⟩ := xgR_some h0
        refine px_get rfl e1 e2 rfl ?_
        refine px_ld rfl rfl rfl rfl rfl ?_
        refine px_ld rfl rfl rfl rfl rfl ?_
        obtain ⟨fs, h0, h⟩ := xs_some h
        have e1 := xo_some h0
        obtain ⟨t6, ph7, h0, h⟩ := xb_some h
        refine px_cV1 rfl rfl e1 rfl rfl rfl rfl rfl rfl rfl (r_ObjectFile_nameStart h0 :) (fun _ _ q => nomatch q.2) (fun r ph' q => ?_)
        obtain ⟨rfl, q⟩ := q
        cases q
        obtain ⟨fs, h0, h⟩ := xs_some h
        have e1 := xo_some h0
        obtain ⟨u0, ph8, h0, h⟩ := xb_some h
        refine px_cV2 rfl rfl e1 rfl rfl rfl rfl rfl rfl rfl (r_Name_read h0 :) (fun _ _ q => nomatch q.2) (fun r ph' q => ?_)
        obtain ⟨rfl, q⟩ := q
        cases q
        refine px_ld rfl rfl rfl rfl rfl ?_
        obtain ⟨t9, h0, h⟩ := xs_some h
        obtain ⟨fs, e1, e2⟩ := xgR_some h0
        refine px_get rfl e1 e2 rfl ?_
        refine px_ld rfl rfl rfl rfl rfl ?_
        obtain ⟨t10, h0, h⟩ := xs_some h
        obtain ⟨fs, e1, e2⟩ := xgR_some h0
        refine px_get rfl e1 e2 rfl ?_
        obtain ⟨fs, h0, h⟩ := xs_some h
        have e1 := xo_some h0
        obtain ⟨t11, ph12, h0, h⟩ := xb_some h
        refine px_cV1 rfl rfl e1 rfl rfl rfl rfl rfl rfl rfl (r_Names_enter h0 :) (fun _ _ q => nomatch q.2) (fun r ph' q => ?_)
        obtain ⟨rfl, q⟩ := q
        cases q
        refine px_st (lv' := [.ref a0, .int a1, .ref p1, .int a3, va_rf t11]) rfl rfl (by first | rfl | (cases t11 <;> rfl)) (by first | rfl | (cases t11 <;> rfl)) rfl (by first | rfl | (cases t11 <;> rfl)) rfl ?_
        exact (r_Link_enterNames_48 @ih h :)
def f_Link_enterNames (F : Nat) (c : px_CT) (a0 : Nat) (a1 : Int32) (a2 : Option Nat) (ph : px_H) : Option (Unit × px_H) :=
  f_Link_enterNames_2 F c F a0 a1 a2 (nI 0) ph
theorem r_Link_enterNames {l : Launch} {g : px_G} {d F : Nat} {a0 : Nat} {a1 : Int32} {a2 : Option Nat} {ph : px_H} {r : Unit} {ph' : px_H} (h : f_Link_enterNames F (px_ct g) a0 a1 a2 ph = some (r, ph')) : PW l g (d + 3) m_Link_enterNames 0 [.ref a0, .int a1, va_rf a2, px_u, px_u] [] ph (px_qV r ph') := by
  unfold f_Link_enterNames at h
  refine px_ic (k := 0) rfl rfl rfl ?_
  refine px_st (lv' := [.ref a0, .int a1, va_rf a2, .int (nI 0), px_u]) rfl rfl rfl rfl (by first | rfl | (cases a2 <;> rfl)) rfl rfl ?_
  exact (r_Link_enterNames_2 _ h :)
def f_ObjectFile_typeOf (F : Nat) (c : px_CT) (a0 : Nat) (a1 : Int32) (ph : px_H) : Option (Int64 × px_H) :=
  (xgI ph 7 7 a0).bind fun t1 =>
  (xo ph 7 a0).bind fun _ =>
  xb (f_ObjectFile_num F c a0 ((t1 + ((nI 64) * a1)) + (nI 4)) (nI 4) ph) fun t2 ph3 =>
  some (t2, ph3)
theorem r_ObjectFile_typeOf {l : Launch} {g : px_G} {d F : Nat} {a0 : Nat} {a1 : Int32} {ph : px_H} {r : Int64} {ph' : px_H} (h : f_ObjectFile_typeOf F (px_ct g) a0 a1 ph = some (r, ph')) : PW l g (d + 1) m_ObjectFile_typeOf 0 [.ref a0, .int a1] [] ph (px_qJ r ph') := by
  unfold f_ObjectFile_typeOf at h
  refine px_ld rfl rfl rfl rfl rfl ?_
  refine px_ld rfl rfl rfl rfl rfl ?_
  obtain ⟨t1, h0, h⟩ := xs_some h
  obtain ⟨fs, e1, e2⟩ := xgI_some h0
  refine px_get rfl e1 e2 rfl ?_
  refine px_ic (k := 64) rfl rfl rfl ?_
  refine px_ld rfl rfl rfl rfl rfl ?_
  refine px_alu rfl rfl rfl ?_
  refine px_alu rfl rfl rfl ?_
  refine px_ic (k := 4) rfl rfl rfl ?_
  refine px_alu rfl rfl rfl ?_
  refine px_ic (k := 4) rfl rfl rfl ?_
  obtain ⟨fs, h0, h⟩ := xs_some h
  have e1 := xo_some h0
  obtain ⟨t2, ph3, h0, h⟩ := xb_some h
  refine px_cV2 rfl rfl e1 rfl rfl rfl rfl rfl rfl rfl (r_ObjectFile_num h0 :) (fun _ _ q => nomatch q.2) (fun r ph' q => ?_)
  obtain ⟨rfl, q⟩ := q
  cases q
  cases h
  exact px_lret rfl rfl rfl ⟨rfl, rfl⟩
def f_ObjectFile_infoOf (F : Nat) (c : px_CT) (a0 : Nat) (a1 : Int32) (ph : px_H) : Option (Int64 × px_H) :=
  (xgI ph 7 7 a0).bind fun t1 =>
  (xo ph 7 a0).bind fun _ =>
  xb (f_ObjectFile_num F c a0 ((t1 + ((nI 64) * a1)) + (nI 44)) (nI 4) ph) fun t2 ph3 =>
  some (t2, ph3)
theorem r_ObjectFile_infoOf {l : Launch} {g : px_G} {d F : Nat} {a0 : Nat} {a1 : Int32} {ph : px_H} {r : Int64} {ph' : px_H} (h : f_ObjectFile_infoOf F (px_ct g) a0 a1 ph = some (r, ph')) : PW l g (d + 1) m_ObjectFile_infoOf 0 [.ref a0, .int a1] [] ph (px_qJ r ph') := by
  unfold f_ObjectFile_infoOf at h
  refine px_ld rfl rfl rfl rfl rfl ?_
  refine px_ld rfl rfl rfl rfl rfl ?_
  obtain ⟨t1, h0, h⟩ := xs_some h
  obtain ⟨fs, e1, e2⟩ := xgI_some h0
  refine px_get rfl e1 e2 rfl ?_
  refine px_ic (k := 64) rfl rfl rfl ?_
  refine px_ld rfl rfl rfl rfl rfl ?_
  refine px_alu rfl rfl rfl ?_
  refine px_alu rfl rfl rfl ?_
  refine px_ic (k := 44) rfl rfl rfl ?_
  refine px_alu rfl rfl rfl ?_
  refine px_ic (k := 4) rfl rfl rfl ?_
  obtain ⟨fs, h0, h⟩ := xs_some h
  have e1 := xo_some h0
  obtain ⟨t2, ph3, h0, h⟩ := xb_some h
  refine px_cV2 rfl rfl e1 rfl rfl rfl rfl rfl rfl rfl (r_ObjectFile_num h0 :) (fun _ _ q => nomatch q.2) (fun r ph' q => ?_)
  obtain ⟨rfl, q⟩ := q
  cases q
  cases h
  exact px_lret rfl rfl rfl ⟨rfl, rfl⟩
def f_Link_nameOf_52 (F : Nat) (c : px_CT) (s0 : Option Nat) (ph : px_H) : Option (Option Nat × px_H) :=
  some (s0, ph)
theorem r_Link_nameOf_52 {l : Launch} {g : px_G} {d F : Nat} {s0 : Option Nat} {ph : px_H} {r : Option Nat} {ph' : px_H} (h : f_Link_nameOf_52 F (px_ct g) s0 ph = some (r, ph')) : PW l g (d + 0) m_Link_nameOf 52 [px_u, px_u, px_u, px_u, px_u] [va_rf s0] ph (px_qN r ph') := by
  unfold f_Link_nameOf_52 at h
  cases h
  exact px_aret rfl rfl (Or.inl ⟨_, rfl⟩) (by first | rfl | (cases s0 <;> rfl) | (cases r <;> rfl) | (cases s0 <;> cases r <;> rfl)) rfl ⟨rfl, rfl⟩
def f_Link_nameOf_35 (F : Nat) (c : px_CT) (a0 : Nat) (a3 : Int32) (s0 : Int32) (ph : px_H) : Option (Option Nat × px_H) :=
  if s0 = 0 then
    f_Link_nameOf_52 F c none ph
  else
    (xgR ph 3 8 a0).bind fun t1 =>
    (xaN ph 5 t1 a3).bind fun t2 =>
    f_Link_nameOf_52 F c t2 ph
theorem r_Link_nameOf_35 {l : Launch} {g : px_G} {d F : Nat} {a0 : Nat} {a3 : Int32} {s0 : Int32} {ph : px_H} {r : Option Nat} {ph' : px_H} (h : f_Link_nameOf_35 F (px_ct g) a0 a3 s0 ph = some (r, ph')) : PW l g (d + 0) m_Link_nameOf 35 [.ref a0, px_u, px_u, .int a3, px_u] [.int s0] ph (px_qN r ph') := by
  unfold f_Link_nameOf_35 at h
  refine px_st (lv' := [_, _, _, _, _]) rfl rfl rfl rfl rfl rfl rfl ?_
  refine px_ld rfl rfl rfl rfl rfl ?_
  refine px_ifeq rfl rfl rfl (fun hc => ?_) (fun hc => ?_)
  · replace h := (if_pos hc).symm.trans h
    refine px_alu rfl rfl rfl ?_
    refine px_forget (n := 0) (lv' := [_, _, _, _, _]) rfl ?_
    refine px_forget (n := 3) (lv' := [_, _, _, _, _]) rfl ?_
    refine px_forget (n := 4) (lv' := [_, _, _, _, _]) rfl ?_
    exact (r_Link_nameOf_52 h :)
  · replace h := (if_neg hc).symm.trans h
    refine px_ld rfl rfl rfl rfl rfl ?_
    obtain ⟨t1, h0, h⟩ := xs_some h
    obtain ⟨fs, e1, e2⟩ := xgR_some h0
    refine px_get rfl e1 e2 rfl ?_
    refine px_ld rfl rfl rfl rfl rfl ?_
    obtain ⟨t2, h0, h⟩ := xs_some h
    obtain ⟨N, f, e1, e2, e3⟩ := xaN_some h0
    refine px_aaldO rfl e1 rfl e2 e3 rfl ?_
    refine px_goto rfl rfl rfl ?_
    refine px_forget (n := 0) (lv' := [_, _, _, _, _]) rfl ?_
    refine px_forget (n := 3) (lv' := [_, _, _, _, _]) rfl ?_
    refine px_forget (n := 4) (lv' := [_, _, _, _, _]) rfl ?_
    exact (r_Link_nameOf_52 h :)
def f_Link_nameOf_34 (F : Nat) (c : px_CT) (a0 : Nat) (a3 : Int32) (ph : px_H) : Option (Option Nat × px_H) :=
  f_Link_nameOf_35 F c a0 a3 (nI 0) ph
theorem r_Link_nameOf_34 {l : Launch} {g : px_G} {d F : Nat} {a0 : Nat} {a3 : Int32} {ph : px_H} {r : Option Nat} {ph' : px_H} (h : f_Link_nameOf_34 F (px_ct g) a0 a3 ph = some (r, ph')) : PW l g (d + 0) m_Link_nameOf 34 [.ref a0, px_u, px_u, .int a3, px_u] [] ph (px_qN r ph') := by
  unfold f_Link_nameOf_34 at h
  refine px_ic (k := 0) rfl rfl rfl ?_
  exact (r_Link_nameOf_35 h :)
def f_Link_nameOf (F : Nat) (c : px_CT) (a0 : Nat) (a1 : Int32) (a2 : Int32) (ph : px_H) : Option (Option Nat × px_H) :=
  if a2 < 0 then
    f_Link_nameOf_34 F c a0 ((a1 * (nI 64)) + a2) ph
  else
    if (nI 64) ≤ a2 then
      f_Link_nameOf_34 F c a0 ((a1 * (nI 64)) + a2) ph
    else
      if ((a1 * (nI 64)) + a2) < 0 then
        f_Link_nameOf_34 F c a0 ((a1 * (nI 64)) + a2) ph
      else
        (xgR ph 3 8 a0).bind fun t1 =>
        (xal ph 5 t1).bind fun t2 =>
        if t2 ≤ ((a1 * (nI 64)) + a2) then
          f_Link_nameOf_34 F c a0 ((a1 * (nI 64)) + a2) ph
        else
          f_Link_nameOf_35 F c a0 ((a1 * (nI 64)) + a2) (nI 1) ph
theorem r_Link_nameOf {l : Launch} {g : px_G} {d F : Nat} {a0 : Nat} {a1 : Int32} {a2 : Int32} {ph : px_H} {r : Option Nat} {ph' : px_H} (h : f_Link_nameOf F (px_ct g) a0 a1 a2 ph = some (r, ph')) : PW l g (d + 0) m_Link_nameOf 0 [.ref a0, .int a1, .int a2, px_u, px_u] [] ph (px_qN r ph') := by
  unfold f_Link_nameOf at h
  refine px_ld rfl rfl rfl rfl rfl ?_
  refine px_ic (k := 64) rfl rfl rfl ?_
  refine px_alu rfl rfl rfl ?_
  refine px_ld rfl rfl rfl rfl rfl ?_
  refine px_alu rfl rfl rfl ?_
  refine px_st (lv' := [_, _, _, _, _]) rfl rfl rfl rfl rfl rfl rfl ?_
  refine px_ld rfl rfl rfl rfl rfl ?_
  refine px_iflt rfl rfl rfl (fun hc => ?_) (fun hc => ?_)
  · replace h := (if_pos hc).symm.trans h
    refine px_forget (n := 1) (lv' := [_, _, _, _, _]) rfl ?_
    refine px_forget (n := 2) (lv' := [_, _, _, _, _]) rfl ?_
    exact (r_Link_nameOf_34 h :)
  · replace h := (if_neg hc).symm.trans h
    refine px_ld rfl rfl rfl rfl rfl ?_
    refine px_ic (k := 64) rfl rfl rfl ?_
    refine px_icge rfl rfl rfl (fun hc => ?_) (fun hc => ?_)
    · replace h := (if_pos hc).symm.trans h
      refine px_forget (n := 1) (lv' := [_, _, _, _, _]) rfl ?_
      refine px_forget (n := 2) (lv' := [_, _, _, _, _]) rfl ?_
      exact (r_Link_nameOf_34 h :)
    · replace h := (if_neg hc).symm.trans h
      refine px_ld rfl rfl rfl rfl rfl ?_
      refine px_iflt rfl rfl rfl (fun hc => ?_) (fun hc => ?_)
      · replace h := (if_pos hc).symm.trans h
        refine px_forget (n := 1) (lv' := [_, _, _, _, _]) rfl ?_
        refine px_forget (n := 2) (lv' := [_, _, _, _, _]) rfl ?_
        exact (r_Link_nameOf_34 h :)
      · replace h := (if_neg hc).symm.trans h
        refine px_ld rfl rfl rfl rfl rfl ?_
        refine px_ld rfl rfl rfl rfl rfl ?_
        obtain ⟨t1, h0, h⟩ := xs_some h
        obtain ⟨fs, e1, e2⟩ := xgR_some h0
        refine px_get rfl e1 e2 rfl ?_
        obtain ⟨t2, h0, h⟩ := xs_some h
        obtain ⟨x, e1, e3⟩ := xal_some h0
        subst e3
        refine px_alen rfl e1 rfl rfl ?_
        refine px_icge rfl rfl rfl (fun hc => ?_) (fun hc => ?_)
        · replace h := (if_pos hc).symm.trans h
          refine px_forget (n := 1) (lv' := [_, _, _, _, _]) rfl ?_
          refine px_forget (n := 2) (lv' := [_, _, _, _, _]) rfl ?_
          exact (r_Link_nameOf_34 h :)
        · replace h := (if_neg hc).symm.trans h
          refine px_ic (k := 1) rfl rfl rfl ?_
          refine px_goto rfl rfl rfl ?_
          refine px_forget (n := 1) (lv' := [_, _, _, _, _]) rfl ?_
          refine px_forget (n := 2) (lv' := [_, _, _, _, _]) rfl ?_
          exact (r_Link_nameOf_35 h :)
def f_Link_dropParts_51 (F : Nat) (c : px_CT) (ph : px_H) : Option (Unit × px_H) :=
  some ((), ph)
theorem r_Link_dropParts_51 {l : Launch} {g : px_G} {d F : Nat} {ph : px_H} {r : Unit} {ph' : px_H} (h : f_Link_dropParts_51 F (px_ct g) ph = some (r, ph')) : PW l g (d + 1) m_Link_dropParts 51 [px_u, px_u, px_u, px_u, px_u, px_u, px_u] [] ph (px_qV r ph') := by
  unfold f_Link_dropParts_51 at h
  cases h
  exact px_vret rfl rfl rfl ⟨rfl, rfl⟩
def f_Link_dropParts_3 (F : Nat) (c : px_CT) : Nat → Nat → Int32 → Option Nat → Int32 → Int32 → Int32 → px_H → Option (Unit × px_H)
  | 0, _, _, _, _, _, _, _ => none
  | n + 1, a0, a1, a2, a3, a4, a5, ph =>
    if a4 ≤ a5 then
      f_Link_dropParts_51 F c ph
    else
      (a2).bind fun p1 =>
      (xo ph 7 p1).bind fun _ =>
      xb (f_ObjectFile_num F c p1 (a3 + a5) (nI 4) ph) fun t2 ph3 =>
      (xo ph3 3 a0).bind fun _ =>
      xb (f_Link_part F c a0 a1 t2.toInt32 ph3) fun t4 ph5 =>
      (t4).bind fun p6 =>
      (xpI ph5 8 8 p6 (nI 2)).bind fun ph7 =>
      (xpZ ph7 8 9 p6 (nI 0)).bind fun ph8 =>
      (xpZ ph8 8 10 p6 (nI 0)).bind fun ph9 =>
      f_Link_dropParts_3 F c n a0 a1 (some p1) a3 a4 (a5 + nI 4) ph9
theorem r_Link_dropParts_3 {l : Launch} {g : px_G} {d F : Nat} : ∀ (n : Nat) {a0 : Nat} {a1 : Int32} {a2 : Option Nat} {a3 : Int32} {a4 : Int32} {a5 : Int32} {ph : px_H} {r : Unit} {ph' : px_H}, f_Link_dropParts_3 F (px_ct g) n a0 a1 a2 a3 a4 a5 ph = some (r, ph') → PW l g (d + 1) m_Link_dropParts 3 [.ref a0, .int a1, va_rf a2, .int a3, .int a4, .int a5, px_u] [] ph (px_qV r ph') := by
  intro n
  induction n with
  | zero => intro _ _ _ _ _ _ _ _ _ h; cases h
  | succ n ih =>
    intro a0 a1 a2 a3 a4 a5 ph r ph' h
    unfold f_Link_dropParts_3 at h
    refine px_ld rfl rfl rfl rfl rfl ?_
    refine px_ld rfl rfl rfl rfl rfl ?_
    refine px_icge rfl rfl rfl (fun hc => ?_) (fun hc => ?_)
    · replace h := (if_pos hc).symm.trans h
      refine px_forget (n := 0) (lv' := [_, _, _, _, _, _, _]) rfl ?_
      refine px_forget (n := 1) (lv' := [_, _, _, _, _, _, _]) rfl ?_
      refine px_forget (n := 2) (lv' := [_, _, _, _, _, _, _]) rfl ?_
      refine px_forget (n := 3) (lv' := [_, _, _, _, _, _, _]) rfl ?_
      refine px_forget (n := 4) (lv' := [_, _, _, _, _, _, _]) rfl ?_
      refine px_forget (n := 5) (lv' := [_, _, _, _, _, _, _]) rfl ?_
      exact (r_Link_dropParts_51 h :)
    · replace h := (if_neg hc).symm.trans h
      refine px_ld rfl rfl rfl rfl rfl ?_
      refine px_ld rfl rfl rfl rfl rfl ?_
      refine px_ld rfl rfl rfl (by first | rfl | (cases a2 <;> rfl)) rfl ?_
      refine px_ld rfl rfl rfl rfl rfl ?_
      refine px_ld rfl rfl rfl rfl rfl ?_
      refine px_alu rfl rfl rfl ?_
      refine px_ic (k := 4) rfl rfl rfl ?_
      obtain ⟨p1, h0, h⟩ := xs_some h
      revert h
      subst h0
      intro h
      obtain ⟨fs, h0, h⟩ := xs_some h
      have e1 := xo_some h0
      obtain ⟨t2, ph3, h0, h⟩ := xb_some h
      refine px_cV2 rfl rfl e1 rfl rfl rfl rfl rfl rfl rfl (r_ObjectFile_num h0 :) (fun _ _ q => nomatch q.2) (fun r ph' q => ?_)
      obtain ⟨rfl, q⟩ := q
      cases q
      refine px_alu rfl rfl rfl ?_
      obtain ⟨fs, h0, h⟩ := xs_some h
      have e1 := xo_some h0
      obtain ⟨t4, ph5, h0, h⟩ := xb_some h
      refine px_cV2 rfl rfl e1 rfl rfl rfl rfl rfl rfl rfl (r_Link_part h0 :) (fun _ _ q => nomatch q.2) (fun r ph' q => ?_)
      obtain ⟨rfl, q⟩ := q
      cases q
      refine px_st (lv' := [.ref a0, .int a1, .ref p1, .int a3, .int a4, .int a5, va_rf t4]) rfl rfl (by first | rfl | (cases t4 <;> rfl)) (by first | rfl | (cases t4 <;> rfl)) rfl (by first | rfl | (cases t4 <;> rfl)) rfl ?_
      refine px_ld rfl rfl rfl (by first | rfl | (cases t4 <;> rfl)) rfl ?_
      refine px_ic (k := 2) rfl rfl rfl ?_
      obtain ⟨p6, h0, h⟩ := xs_some h
      revert h
      subst h0
      intro h
      obtain ⟨ph7, h0, h⟩ := xs_some h
      obtain ⟨fs, e1, e2, e3⟩ := xpI_some h0
      subst e3
      refine px_put rfl e1 e2 trivial rfl ?_
      refine px_ld rfl rfl rfl rfl rfl ?_
      refine px_ic (k := 0) rfl rfl rfl ?_
      obtain ⟨ph8, h0, h⟩ := xs_some h
      obtain ⟨fs, e1, e2, e3, e4⟩ := xpZ_some h0
      subst e3
      refine px_put rfl e1 e2 e4 rfl ?_
      refine px_ld rfl rfl rfl rfl rfl ?_
      refine px_ic (k := 0) rfl rfl rfl ?_
      obtain ⟨ph9, h0, h⟩ := xs_some h
      obtain ⟨fs, e1, e2, e3, e4⟩ := xpZ_some h0
      subst e3
      refine px_put rfl e1 e2 e4 rfl ?_
      refine px_iinc (lv' := [_, _, _, _, _, _, _]) rfl rfl rfl rfl rfl rfl ?_
      refine px_goto rfl rfl rfl ?_
      refine px_forget (n := 6) (lv' := [_, _, _, _, _, _, _]) rfl ?_
      exact (ih h :)
def f_Link_dropParts (F : Nat) (c : px_CT) (a0 : Nat) (a1 : Int32) (a2 : Option Nat) (a3 : Int32) (a4 : Int32) (ph : px_H) : Option (Unit × px_H) :=
  f_Link_dropParts_3 F c F a0 a1 a2 a3 a4 (nI 4) ph
theorem r_Link_dropParts {l : Launch} {g : px_G} {d F : Nat} {a0 : Nat} {a1 : Int32} {a2 : Option Nat} {a3 : Int32} {a4 : Int32} {ph : px_H} {r : Unit} {ph' : px_H} (h : f_Link_dropParts F (px_ct g) a0 a1 a2 a3 a4 ph = some (r, ph')) : PW l g (d + 1) m_Link_dropParts 0 [.ref a0, .int a1, va_rf a2, .int a3, .int a4, px_u, px_u] [] ph (px_qV r ph') := by
  unfold f_Link_dropParts at h
  refine px_ic (k := 4) rfl rfl rfl ?_
  refine px_st (lv' := [_, _, _, _, _, _, _]) rfl rfl rfl rfl rfl rfl rfl ?_
  exact (r_Link_dropParts_3 _ h :)
def f_Link_dropGroups_110 (F : Nat) (c : px_CT) (ph : px_H) : Option (Unit × px_H) :=
  some ((), ph)
theorem r_Link_dropGroups_110 {l : Launch} {g : px_G} {d F : Nat} {ph : px_H} {r : Unit} {ph' : px_H} (h : f_Link_dropGroups_110 F (px_ct g) ph = some (r, ph')) : PW l g (d + 2) m_Link_dropGroups 110 [px_u, px_u, px_u, px_u, px_u, px_u] [] ph (px_qV r ph') := by
  unfold f_Link_dropGroups_110 at h
  cases h
  exact px_vret rfl rfl rfl ⟨rfl, rfl⟩
def f_Link_dropGroups_104 (F : Nat) (c : px_CT) (k2 : Nat → Int32 → Option Nat → Int32 → px_H → Option (Unit × px_H)) (a0 : Nat) (a1 : Int32) (a2 : Option Nat) (a3 : Int32) (ph : px_H) : Option (Unit × px_H) :=
  k2 a0 a1 a2 (a3 + nI 1) ph
theorem r_Link_dropGroups_104 {l : Launch} {g : px_G} {d F : Nat} {k2 : Nat → Int32 → Option Nat → Int32 → px_H → Option (Unit × px_H)} (hk2 : ∀ {a0 : Nat} {a1 : Int32} {a2 : Option Nat} {a3 : Int32} {ph : px_H} {r : Unit} {ph' : px_H}, k2 a0 a1 a2 a3 ph = some (r, ph') → PW l g (d + 2) m_Link_dropGroups 2 [.ref a0, .int a1, va_rf a2, .int a3, px_u, px_u] [] ph (px_qV r ph')) {a0 : Nat} {a1 : Int32} {a2 : Option Nat} {a3 : Int32} {ph : px_H} {r : Unit} {ph' : px_H} (h : f_Link_dropGroups_104 F (px_ct g) k2 a0 a1 a2 a3 ph = some (r, ph')) : PW l g (d + 2) m_Link_dropGroups 104 [.ref a0, .int a1, va_rf a2, .int a3, px_u, px_u] [] ph (px_qV r ph') := by
  unfold f_Link_dropGroups_104 at h
  refine px_iinc (lv' := [_, _, _, _, _, _]) rfl rfl rfl (by first | rfl | (cases a2 <;> rfl)) rfl rfl ?_
  refine px_goto rfl (by decide) rfl ?_
  exact (hk2 h :)
def f_Link_dropGroups_98 (F : Nat) (c : px_CT) (k2 : Nat → Int32 → Option Nat → Int32 → px_H → Option (Unit × px_H)) (a0 : Nat) (a1 : Int32) (a2 : Option Nat) (a3 : Int32) (a5 : Option Nat) (ph : px_H) : Option (Unit × px_H) :=
  (a5).bind fun p1 =>
  (xpZ ph 5 12 p1 (nI 1)).bind fun ph2 =>
  f_Link_dropGroups_104 F c k2 a0 a1 a2 a3 ph2
theorem r_Link_dropGroups_98 {l : Launch} {g : px_G} {d F : Nat} {k2 : Nat → Int32 → Option Nat → Int32 → px_H → Option (Unit × px_H)} (hk2 : ∀ {a0 : Nat} {a1 : Int32} {a2 : Option Nat} {a3 : Int32} {ph : px_H} {r : Unit} {ph' : px_H}, k2 a0 a1 a2 a3 ph = some (r, ph') → PW l g (d + 2) m_Link_dropGroups 2 [.ref a0, .int a1, va_rf a2, .int a3, px_u, px_u] [] ph (px_qV r ph')) {a0 : Nat} {a1 : Int32} {a2 : Option Nat} {a3 : Int32} {a5 : Option Nat} {ph : px_H} {r : Unit} {ph' : px_H} (h : f_Link_dropGroups_98 F (px_ct g) k2 a0 a1 a2 a3 a5 ph = some (r, ph')) : PW l g (d + 2) m_Link_dropGroups 98 [.ref a0, .int a1, va_rf a2, .int a3, px_u, va_rf a5] [] ph (px_qV r ph') := by
  unfold f_Link_dropGroups_98 at h
  refine px_ld rfl rfl rfl (by first | rfl | (cases a5 <;> rfl)) rfl ?_
  refine px_ic (k := 1) rfl rfl rfl ?_
  obtain ⟨p1, h0, h⟩ := xs_some h
  revert h
  subst h0
  intro h
  obtain ⟨ph2, h0, h⟩ := xs_some h
  obtain ⟨fs, e1, e2, e3, e4⟩ := xpZ_some h0
  subst e3
  refine px_put rfl e1 e2 e4 rfl ?_
  refine px_forget (n := 5) (lv' := [_, _, _, _, _, _]) rfl ?_
  exact (r_Link_dropGroups_104 @hk2 h :)
def f_Link_dropGroups_2 (F : Nat) (c : px_CT) : Nat → Nat → Int32 → Option Nat → Int32 → px_H → Option (Unit × px_H)
  | 0, _, _, _, _, _ => none
  | n + 1, a0, a1, a2, a3, ph =>
    (a2).bind fun p1 =>
    (xgI ph 7 8 p1).bind fun t2 =>
    if t2 ≤ a3 then
      f_Link_dropGroups_110 F c ph
    else
      (xo ph 7 p1).bind fun _ =>
      xb (f_ObjectFile_placeOf F c p1 a3 ph) fun t3 ph4 =>
      (xo ph4 7 p1).bind fun _ =>
      xb (f_ObjectFile_typeOf F c p1 a3 ph4) fun t5 ph6 =>
      if t5 = ((17 : Int64)) then
        (xo ph6 7 p1).bind fun _ =>
        xb (f_ObjectFile_num F c p1 t3.toInt32 (nI 4) ph6) fun t7 ph8 =>
        if t7 = (lN 1) then
          (xo ph8 7 p1).bind fun _ =>
          xb (f_ObjectFile_infoOf F c p1 a3 ph8) fun t9 ph10 =>
          (xo ph10 3 a0).bind fun _ =>
          xb (f_Link_nameOf F c a0 a1 t9.toInt32 ph10) fun t11 ph12 =>
          (match t11 with
            | none => f_Link_dropGroups_104 F c (f_Link_dropGroups_2 F c n) a0 a1 (some p1) a3 ph12
            | some p13 => (xgI ph12 5 12 p13).bind fun t14 =>
            if t14 = 0 then
              f_Link_dropGroups_98 F c (f_Link_dropGroups_2 F c n) a0 a1 (some p1) a3 (some p13) ph12
            else
              (xgI ph12 3 17 a0).bind fun t15 =>
              (xpI ph12 3 17 a0 (t15 + (nI 1))).bind fun ph16 =>
              (xo ph16 7 p1).bind fun _ =>
              xb (f_ObjectFile_lengthOf F c p1 a3 ph16) fun t17 ph18 =>
              (xo ph18 3 a0).bind fun _ =>
              xb (f_Link_dropParts F c a0 a1 (some p1) t3.toInt32 t17.toInt32 ph18) fun _ ph19 =>
              f_Link_dropGroups_98 F c (f_Link_dropGroups_2 F c n) a0 a1 (some p1) a3 (some p13) ph19)
        else
          f_Link_dropGroups_104 F c (f_Link_dropGroups_2 F c n) a0 a1 (some p1) a3 ph8
      else
        f_Link_dropGroups_104 F c (f_Link_dropGroups_2 F c n) a0 a1 (some p1) a3 ph6
theorem r_Link_dropGroups_2 {l : Launch} {g : px_G} {d F : Nat} : ∀ (n : Nat) {a0 : Nat} {a1 : Int32} {a2 : Option Nat} {a3 : Int32} {ph : px_H} {r : Unit} {ph' : px_H}, f_Link_dropGroups_2 F (px_ct g) n a0 a1 a2 a3 ph = some (r, ph') → PW l g (d + 2) m_Link_dropGroups 2 [.ref a0, .int a1, va_rf a2, .int a3, px_u, px_u] [] ph (px_qV r ph') := by
  intro n
  induction n with
  | zero => intro _ _ _ _ _ _ _ h; cases h
  | succ n ih =>
    intro a0 a1 a2 a3 ph r ph' h
    unfold f_Link_dropGroups_2 at h
    refine px_ld rfl rfl rfl rfl rfl ?_
    refine px_ld rfl rfl rfl (by first | rfl | (cases a2 <;> rfl)) rfl ?_
    obtain ⟨p1, h0, h⟩ := xs_some h
    revert h
    subst h0
    intro h
    obtain ⟨t2, h0, h⟩ := xs_some h
    obtain ⟨fs, e1, e2⟩ := xgI_some h0
    refine px_get rfl e1 e2 rfl ?_
    refine px_icge rfl (by decide) rfl (fun hc => ?_) (fun hc => ?_)
    · replace h := (if_pos hc).symm.trans h
      refine px_forget (n := 0) (lv' := [_, _, _, _, _, _]) rfl ?_
      refine px_forget (n := 1) (lv' := [_, _, _, _, _, _]) rfl ?_
      refine px_forget (n := 2) (lv' := [_, _, _, _, _, _]) rfl ?_
      refine px_forget (n := 3) (lv' := [_, _, _, _, _, _]) rfl ?_
      exact (r_Link_dropGroups_110 h :)
    · replace h := (if_neg hc).symm.trans h
      refine px_ld rfl rfl rfl rfl rfl ?_
      refine px_ld rfl rfl rfl rfl rfl ?_
      obtain ⟨fs, h0, h⟩ := xs_some h
      have e1 := xo_some h0
      obtain ⟨t3, ph4, h0, h⟩ := xb_some h
      refine px_cV1 rfl rfl e1 rfl rfl rfl rfl rfl rfl rfl (r_ObjectFile_placeOf h0 :) (fun _ _ q => nomatch q.2) (fun r ph' q => ?_)
      obtain ⟨rfl, q⟩ := q
      cases q
      refine px_alu rfl rfl rfl ?_
      refine px_st (lv' := [_, _, _, _, _, _]) rfl rfl rfl rfl rfl rfl rfl ?_
      refine px_ld rfl rfl rfl rfl rfl ?_
      refine px_ld rfl rfl rfl rfl rfl ?_
      obtain ⟨fs, h0, h⟩ := xs_some h
      have e1 := xo_some h0
      obtain ⟨t5, ph6, h0, h⟩ := xb_some h
      refine px_cV1 rfl rfl e1 rfl rfl rfl rfl rfl rfl rfl (r_ObjectFile_typeOf h0 :) (fun _ _ q => nomatch q.2) (fun r ph' q => ?_)
      obtain ⟨rfl, q⟩ := q
      cases q
      refine px_ldc2 rfl rfl rfl ?_
      refine px_alu rfl rfl rfl ?_
      refine px_ifne rfl (by decide) rfl (fun hc => ?_) (fun hc => ?_)
      · replace h := (if_neg (fun q => hc ((lg_cmp_eq _ _).mpr q))).symm.trans h
        refine px_forget (n := 4) (lv' := [_, _, _, _, _, _]) rfl ?_
        exact (r_Link_dropGroups_104 @ih h :)
      · replace h := (if_pos ((lg_cmp_eq _ _).mp hc)).symm.trans h
        refine px_ld rfl rfl rfl rfl rfl ?_
        refine px_ld rfl rfl rfl rfl rfl ?_
        refine px_ic (k := 4) rfl rfl rfl ?_
        obtain ⟨fs, h0, h⟩ := xs_some h
        have e1 := xo_some h0
        obtain ⟨t7, ph8, h0, h⟩ := xb_some h
        refine px_cV2 rfl rfl e1 rfl rfl rfl rfl rfl rfl rfl (r_ObjectFile_num h0 :) (fun _ _ q => nomatch q.2) (fun r ph' q => ?_)
        obtain ⟨rfl, q⟩ := q
        cases q
        refine px_alu rfl rfl rfl ?_
        refine px_alu rfl rfl rfl ?_
        refine px_ifeq rfl (by decide) rfl (fun hc => ?_) (fun hc => ?_)
        · replace h := (if_pos ((lg_cmp_eq _ _).mp hc)).symm.trans h
          refine px_ld rfl rfl rfl rfl rfl ?_
          refine px_ld rfl rfl rfl rfl rfl ?_
          refine px_ld rfl rfl rfl rfl rfl ?_
          refine px_ld rfl rfl rfl rfl rfl ?_
          obtain ⟨fs, h0, h⟩ := xs_some h
          have e1 := xo_some h0
          obtain ⟨t9, ph10, h0, h⟩ := xb_some h
          refine px_cV1 rfl rfl e1 rfl rfl rfl rfl rfl rfl rfl (r_ObjectFile_infoOf h0 :) (fun _ _ q => nomatch q.2) (fun r ph' q => ?_)
          obtain ⟨rfl, q⟩ := q
          cases q
          refine px_alu rfl rfl rfl ?_
          obtain ⟨fs, h0, h⟩ := xs_some h
          have e1 := xo_some h0
          obtain ⟨t11, ph12, h0, h⟩ := xb_some h
          refine px_cV2 rfl rfl e1 rfl rfl rfl rfl rfl rfl rfl (r_Link_nameOf h0 :) (fun _ _ q => nomatch q.2) (fun r ph' q => ?_)
          obtain ⟨rfl, q⟩ := q
          cases q
          refine px_st (lv' := [.ref a0, .int a1, .ref p1, .int a3, .int t3.toInt32, va_rf t11]) rfl rfl (by first | rfl | (cases t11 <;> rfl)) (by first | rfl | (cases t11 <;> rfl)) rfl (by first | rfl | (cases t11 <;> rfl)) rfl ?_
          refine px_ld rfl rfl rfl (by first | rfl | (cases t11 <;> rfl)) rfl ?_
          cases t11 with
          | none =>
            refine px_ifnnN rfl rfl ?_
            refine px_goto rfl (by decide) rfl ?_
            refine px_forget (n := 4) (lv' := [_, _, _, _, _, _]) rfl ?_
            refine px_forget (n := 5) (lv' := [_, _, _, _, _, _]) rfl ?_
            exact (r_Link_dropGroups_104 @ih h :)
          | some p13 =>
            refine px_ifnnR rfl (by decide) rfl ?_
            refine px_ld rfl rfl rfl rfl rfl ?_
            obtain ⟨t14, h0, h⟩ := xs_some h
            obtain ⟨fs, e1, e2⟩ := xgI_some h0
            refine px_get rfl e1 e2 rfl ?_
            refine px_ifeq rfl (by decide) rfl (fun hc => ?_) (fun hc => ?_)
            · replace h := (if_pos hc).symm.trans h
              refine px_forget (n := 4) (lv' := [_, _, _, _, _, _]) rfl ?_
              exact (r_Link_dropGroups_98 @ih h :)
            · replace h := (if_neg hc).symm.trans h
              refine px_ld rfl rfl rfl rfl rfl ?_
              refine px_alu rfl rfl rfl ?_
              obtain ⟨t15, h0, h⟩ := xs_some h
              obtain ⟨fs, e1, e2⟩ := xgI_some h0
              refine px_get rfl e1 e2 rfl ?_
              refine px_ic (k := 1) rfl rfl rfl ?_
              refine px_alu rfl rfl rfl ?_
              obtain ⟨ph16, h0, h⟩ := xs_some h
              obtain ⟨fs, e1, e2, e3⟩ := xpI_some h0
              subst e3
              refine px_put rfl e1 e2 trivial rfl ?_
              refine px_ld rfl rfl rfl rfl rfl ?_
              refine px_ld rfl rfl rfl rfl rfl ?_
              refine px_ld rfl rfl rfl rfl rfl ?_
              refine px_ld rfl rfl rfl rfl rfl ?_
              refine px_ld rfl rfl rfl rfl rfl ?_
              refine px_ld rfl rfl rfl rfl rfl ?_
              obtain ⟨fs, h0, h⟩ := xs_some h
              have e1 := xo_some h0
              obtain ⟨t17, ph18, h0, h⟩ := xb_some h
              refine px_cV1 rfl rfl e1 rfl rfl rfl rfl rfl rfl rfl (r_ObjectFile_lengthOf h0 :) (fun _ _ q => nomatch q.2) (fun r ph' q => ?_)
              obtain ⟨rfl, q⟩ := q
              cases q
              refine px_alu rfl rfl rfl ?_
              obtain ⟨fs, h0, h⟩ := xs_some h
              have e1 := xo_some h0
              obtain ⟨u0, ph19, h0, h⟩ := xb_some h
              refine px_cV4 rfl rfl e1 rfl rfl rfl rfl rfl rfl rfl (r_Link_dropParts h0 :) (fun _ _ q => nomatch q.2) (fun r ph' q => ?_)
              obtain ⟨rfl, q⟩ := q
              cases q
              refine px_forget (n := 4) (lv' := [_, _, _, _, _, _]) rfl ?_
              exact (r_Link_dropGroups_98 @ih h :)
        · replace h := (if_neg (fun q => hc ((lg_cmp_eq _ _).mpr q))).symm.trans h
          refine px_goto rfl (by decide) rfl ?_
          refine px_forget (n := 4) (lv' := [_, _, _, _, _, _]) rfl ?_
          exact (r_Link_dropGroups_104 @ih h :)
def f_Link_dropGroups (F : Nat) (c : px_CT) (a0 : Nat) (a1 : Int32) (a2 : Option Nat) (ph : px_H) : Option (Unit × px_H) :=
  f_Link_dropGroups_2 F c F a0 a1 a2 (nI 0) ph
theorem r_Link_dropGroups {l : Launch} {g : px_G} {d F : Nat} {a0 : Nat} {a1 : Int32} {a2 : Option Nat} {ph : px_H} {r : Unit} {ph' : px_H} (h : f_Link_dropGroups F (px_ct g) a0 a1 a2 ph = some (r, ph')) : PW l g (d + 2) m_Link_dropGroups 0 [.ref a0, .int a1, va_rf a2, px_u, px_u, px_u] [] ph (px_qV r ph') := by
  unfold f_Link_dropGroups at h
  refine px_ic (k := 0) rfl rfl rfl ?_
  refine px_st (lv' := [.ref a0, .int a1, va_rf a2, .int (nI 0), px_u, px_u]) rfl rfl rfl rfl (by first | rfl | (cases a2 <;> rfl)) rfl rfl ?_
  exact (r_Link_dropGroups_2 _ h :)
def f_ObjectFile_whereOf (F : Nat) (c : px_CT) (a0 : Nat) (a1 : Int32) (ph : px_H) : Option (Int32 × px_H) :=
  (xgI ph 7 10 a0).bind fun t1 =>
  (xo ph 7 a0).bind fun _ =>
  xb (f_ObjectFile_num F c a0 ((t1 + ((nI 24) * a1)) + (nI 6)) (nI 2) ph) fun t2 ph3 =>
  some (t2.toInt32, ph3)
theorem r_ObjectFile_whereOf {l : Launch} {g : px_G} {d F : Nat} {a0 : Nat} {a1 : Int32} {ph : px_H} {r : Int32} {ph' : px_H} (h : f_ObjectFile_whereOf F (px_ct g) a0 a1 ph = some (r, ph')) : PW l g (d + 1) m_ObjectFile_whereOf 0 [.ref a0, .int a1] [] ph (px_qI r ph') := by
  unfold f_ObjectFile_whereOf at h
  refine px_ld rfl rfl rfl rfl rfl ?_
  refine px_ld rfl rfl rfl rfl rfl ?_
  obtain ⟨t1, h0, h⟩ := xs_some h
  obtain ⟨fs, e1, e2⟩ := xgI_some h0
  refine px_get rfl e1 e2 rfl ?_
  refine px_ic (k := 24) rfl rfl rfl ?_
  refine px_ld rfl rfl rfl rfl rfl ?_
  refine px_alu rfl rfl rfl ?_
  refine px_alu rfl rfl rfl ?_
  refine px_ic (k := 6) rfl rfl rfl ?_
  refine px_alu rfl rfl rfl ?_
  refine px_ic (k := 2) rfl rfl rfl ?_
  obtain ⟨fs, h0, h⟩ := xs_some h
  have e1 := xo_some h0
  obtain ⟨t2, ph3, h0, h⟩ := xb_some h
  refine px_cV2 rfl rfl e1 rfl rfl rfl rfl rfl rfl rfl (r_ObjectFile_num h0 :) (fun _ _ q => nomatch q.2) (fun r ph' q => ?_)
  obtain ⟨rfl, q⟩ := q
  cases q
  refine px_alu rfl rfl rfl ?_
  cases h
  exact px_iret rfl (Or.inl rfl) rfl ⟨rfl, rfl⟩
def f_Link_settle_212 (F : Nat) (c : px_CT) (ph : px_H) : Option (Int32 × px_H) :=
  some (nI 1, ph)
theorem r_Link_settle_212 {l : Launch} {g : px_G} {d F : Nat} {ph : px_H} {r : Int32} {ph' : px_H} (h : f_Link_settle_212 F (px_ct g) ph = some (r, ph')) : PW l g (d + 1) m_Link_settle 212 [px_u, px_u, px_u, px_u, px_u, px_u, px_u, px_u, px_u, px_u, px_u, px_u] [] ph (px_qI r ph') := by
  unfold f_Link_settle_212 at h
  refine px_ic (k := 1) rfl rfl rfl ?_
  cases h
  exact px_iret rfl (Or.inr ⟨rfl, Or.inr rfl⟩) rfl ⟨rfl, rfl⟩
def f_Link_settle_138 (F : Nat) (c : px_CT) (s0 : Int32) (ph : px_H) : Option (Int32 × px_H) :=
  xz s0 ph
theorem r_Link_settle_138 {l : Launch} {g : px_G} {d F : Nat} {s0 : Int32} {ph : px_H} {r : Int32} {ph' : px_H} (h : f_Link_settle_138 F (px_ct g) s0 ph = some (r, ph')) : PW l g (d + 1) m_Link_settle 138 [px_u, px_u, px_u, px_u, px_u, px_u, px_u, px_u, px_u, px_u, px_u, px_u] [.int s0] ph (px_qI r ph') := by
  unfold f_Link_settle_138 at h
  obtain ⟨e0, e1, e2⟩ := xz_some h
  subst e1 e2
  exact px_iret rfl (Or.inr ⟨rfl, e0⟩) rfl ⟨rfl, rfl⟩
def f_Link_settle_127 (F : Nat) (c : px_CT) (a11 : Int32) (ph : px_H) : Option (Int32 × px_H) :=
  if (nI 3) ≤ a11 then
    f_Link_settle_138 F c (nI 0) ph
  else
    f_Link_settle_138 F c (nI 1) ph
theorem r_Link_settle_127 {l : Launch} {g : px_G} {d F : Nat} {a11 : Int32} {ph : px_H} {r : Int32} {ph' : px_H} (h : f_Link_settle_127 F (px_ct g) a11 ph = some (r, ph')) : PW l g (d + 1) m_Link_settle 127 [px_u, px_u, px_u, px_u, px_u, px_u, px_u, px_u, px_u, px_u, px_u, .int a11] [] ph (px_qI r ph') := by
  unfold f_Link_settle_127 at h
  refine px_ld rfl rfl rfl rfl rfl ?_
  refine px_ic (k := 3) rfl rfl rfl ?_
  refine px_icge rfl (by decide) rfl (fun hc => ?_) (fun hc => ?_)
  · replace h := (if_pos hc).symm.trans h
    refine px_ic (k := 0) rfl rfl rfl ?_
    refine px_forget (n := 11) (lv' := [_, _, _, _, _, _, _, _, _, _, _, _]) rfl ?_
    exact (r_Link_settle_138 h :)
  · replace h := (if_neg hc).symm.trans h
    refine px_ic (k := 1) rfl rfl rfl ?_
    refine px_goto rfl (by decide) rfl ?_
    refine px_forget (n := 11) (lv' := [_, _, _, _, _, _, _, _, _, _, _, _]) rfl ?_
    exact (r_Link_settle_138 h :)
def f_Link_settle_76 (F : Nat) (c : px_CT) (a0 : Nat) (a1 : Option Nat) (a2 : Int32) (a5 : Int32) (a6 : Int32) (a7 : Int64) (a9 : Int64) (s0 : Int32) (ph : px_H) : Option (Int32 × px_H) :=
  (a1).bind fun p1 =>
  (xgI ph 5 4 p1).bind fun t2 =>
  if t2 < s0 then
    if a6 = ((65522 : Int32)) then
      (xo ph 3 a0).bind fun _ =>
      xb (f_Link_define F c a0 (some p1) s0 (nI 3) none a7 a9 (nI 16) ph) fun _ ph7 =>
      f_Link_settle_212 F c ph7
    else
      if a6 = ((65521 : Int32)) then
        (xo ph 3 a0).bind fun _ =>
        xb (f_Link_define F c a0 (some p1) s0 (nI 2) none a7 a9 a5 ph) fun _ ph6 =>
        f_Link_settle_212 F c ph6
      else
        (xo ph 3 a0).bind fun _ =>
        xb (f_Link_part F c a0 a2 a6 ph) fun t3 ph4 =>
        (xo ph4 3 a0).bind fun _ =>
        xb (f_Link_define F c a0 (some p1) s0 (nI 1) t3 a7 a9 a5 ph4) fun _ ph5 =>
        f_Link_settle_212 F c ph5
  else
    if s0 = (nI 2) then
      (xgI ph 5 4 p1).bind fun t8 =>
      if t8 = (nI 2) then
        (xgJ ph 5 8 p1).bind fun t9 =>
        (xpJ ph 5 8 p1 (if a9 < t9 then t9 else a9)).bind fun ph10 =>
        (xgJ ph10 5 7 p1).bind fun t11 =>
        (xpJ ph10 5 7 p1 (if a7 < t11 then t11 else a7)).bind fun ph12 =>
        f_Link_settle_127 F c s0 ph12
      else
        f_Link_settle_127 F c s0 ph
    else
      f_Link_settle_127 F c s0 ph
theorem r_Link_settle_76 {l : Launch} {g : px_G} {d F : Nat} {a0 : Nat} {a1 : Option Nat} {a2 : Int32} {a5 : Int32} {a6 : Int32} {a7 : Int64} {a9 : Int64} {s0 : Int32} {ph : px_H} {r : Int32} {ph' : px_H} (h : f_Link_settle_76 F (px_ct g) a0 a1 a2 a5 a6 a7 a9 s0 ph = some (r, ph')) : PW l g (d + 1) m_Link_settle 76 [.ref a0, va_rf a1, .int a2, px_u, px_u, .int a5, .int a6, .long a7, px_u, .long a9, px_u, px_u] [.int s0] ph (px_qI r ph') := by
  unfold f_Link_settle_76 at h
  refine px_st (lv' := [_, _, _, _, _, _, _, _, _, _, _, _]) rfl rfl rfl rfl rfl rfl rfl ?_
  refine px_ld rfl rfl rfl rfl rfl ?_
  refine px_ld rfl rfl rfl (by first | rfl | (cases a1 <;> rfl)) rfl ?_
  obtain ⟨p1, h0, h⟩ := xs_some h
  revert h
  subst h0
  intro h
  obtain ⟨t2, h0, h⟩ := xs_some h
  obtain ⟨fs, e1, e2⟩ := xgI_some h0
  refine px_get rfl e1 e2 rfl ?_
  refine px_icgt rfl (by decide) rfl (fun hc => ?_) (fun hc => ?_)
  · replace h := (if_pos hc).symm.trans h
    refine px_ld rfl rfl rfl rfl rfl ?_
    refine px_ldcw rfl (by decide) rfl rfl ?_
    refine px_icne rfl (by decide) rfl (fun hc => ?_) (fun hc => ?_)
    · replace h := (if_neg hc).symm.trans h
      refine px_ld rfl rfl rfl rfl rfl ?_
      refine px_ldcw rfl (by decide) rfl rfl ?_
      refine px_icne rfl (by decide) rfl (fun hc => ?_) (fun hc => ?_)
      · replace h := (if_neg hc).symm.trans h
        refine px_ld rfl rfl rfl rfl rfl ?_
        refine px_ld rfl rfl rfl rfl rfl ?_
        refine px_ld rfl rfl rfl rfl rfl ?_
        refine px_ic (k := 1) rfl rfl rfl ?_
        refine px_ld rfl rfl rfl rfl rfl ?_
        refine px_ld rfl rfl rfl rfl rfl ?_
        refine px_ld rfl rfl rfl rfl rfl ?_
        obtain ⟨fs, h0, h⟩ := xs_some h
        have e1 := xo_some h0
        obtain ⟨t3, ph4, h0, h⟩ := xb_some h
        refine px_cV2 rfl rfl e1 rfl rfl rfl rfl rfl rfl rfl (r_Link_part h0 :) (fun _ _ q => nomatch q.2) (fun r ph' q => ?_)
        obtain ⟨rfl, q⟩ := q
        cases q
        refine px_ld rfl rfl rfl rfl rfl ?_
        refine px_ld rfl rfl rfl rfl rfl ?_
        refine px_ld rfl rfl rfl rfl rfl ?_
        obtain ⟨fs, h0, h⟩ := xs_some h
        have e1 := xo_some h0
        obtain ⟨u0, ph5, h0, h⟩ := xb_some h
        refine px_cV7 (lv0 := [.ref a0, .ref p1, .int s0, .int (nI 1), va_rf t3, .long a7, px_u, .long a9, px_u, .int a5]) rfl rfl e1 rfl rfl rfl (by first | rfl | (cases t3 <;> rfl)) rfl (by first | rfl | (cases t3 <;> rfl)) rfl (r_Link_define h0 :) (fun _ _ q => nomatch q.2) (fun r ph' q => ?_)
        obtain ⟨rfl, q⟩ := q
        cases q
        refine px_forget (n := 0) (lv' := [_, _, _, _, _, _, _, _, _, _, _, _]) rfl ?_
        refine px_forget (n := 1) (lv' := [_, _, _, _, _, _, _, _, _, _, _, _]) rfl ?_
        refine px_forget (n := 2) (lv' := [_, _, _, _, _, _, _, _, _, _, _, _]) rfl ?_
        refine px_forget (n := 5) (lv' := [_, _, _, _, _, _, _, _, _, _, _, _]) rfl ?_
        refine px_forget (n := 6) (lv' := [_, _, _, _, _, _, _, _, _, _, _, _]) rfl ?_
        refine px_forget (n := 7) (lv' := [_, _, _, _, _, _, _, _, _, _, _, _]) rfl ?_
        refine px_forget (n := 9) (lv' := [_, _, _, _, _, _, _, _, _, _, _, _]) rfl ?_
        refine px_forget (n := 11) (lv' := [_, _, _, _, _, _, _, _, _, _, _, _]) rfl ?_
        exact (r_Link_settle_212 h :)
      · replace h := (if_pos hc).symm.trans h
        refine px_ld rfl rfl rfl rfl rfl ?_
        refine px_ld rfl rfl rfl rfl rfl ?_
        refine px_ld rfl rfl rfl rfl rfl ?_
        refine px_ic (k := 2) rfl rfl rfl ?_
        refine px_alu rfl rfl rfl ?_
        refine px_ld rfl rfl rfl rfl rfl ?_
        refine px_ld rfl rfl rfl rfl rfl ?_
        refine px_ld rfl rfl rfl rfl rfl ?_
        obtain ⟨fs, h0, h⟩ := xs_some h
        have e1 := xo_some h0
        obtain ⟨u0, ph6, h0, h⟩ := xb_some h
        refine px_cV7 (lv0 := [.ref a0, .ref p1, .int s0, .int (nI 2), va_rf none, .long a7, px_u, .long a9, px_u, .int a5]) rfl rfl e1 rfl rfl rfl (by first | rfl | (cases none <;> rfl)) rfl (by first | rfl | (cases none <;> rfl)) rfl (r_Link_define h0 :) (fun _ _ q => nomatch q.2) (fun r ph' q => ?_)
        obtain ⟨rfl, q⟩ := q
        cases q
        refine px_goto rfl (by decide) rfl ?_
        refine px_forget (n := 0) (lv' := [_, _, _, _, _, _, _, _, _, _, _, _]) rfl ?_
        refine px_forget (n := 1) (lv' := [_, _, _, _, _, _, _, _, _, _, _, _]) rfl ?_
        refine px_forget (n := 2) (lv' := [_, _, _, _, _, _, _, _, _, _, _, _]) rfl ?_
        refine px_forget (n := 5) (lv' := [_, _, _, _, _, _, _, _, _, _, _, _]) rfl ?_
        refine px_forget (n := 6) (lv' := [_, _, _, _, _, _, _, _, _, _, _, _]) rfl ?_
        refine px_forget (n := 7) (lv' := [_, _, _, _, _, _, _, _, _, _, _, _]) rfl ?_
        refine px_forget (n := 9) (lv' := [_, _, _, _, _, _, _, _, _, _, _, _]) rfl ?_
        refine px_forget (n := 11) (lv' := [_, _, _, _, _, _, _, _, _, _, _, _]) rfl ?_
        exact (r_Link_settle_212 h :)
    · replace h := (if_pos hc).symm.trans h
      refine px_ld rfl rfl rfl rfl rfl ?_
      refine px_ld rfl rfl rfl rfl rfl ?_
      refine px_ld rfl rfl rfl rfl rfl ?_
      refine px_ic (k := 3) rfl rfl rfl ?_
      refine px_alu rfl rfl rfl ?_
      refine px_ld rfl rfl rfl rfl rfl ?_
      refine px_ld rfl rfl rfl rfl rfl ?_
      refine px_ic (k := 16) rfl rfl rfl ?_
      obtain ⟨fs, h0, h⟩ := xs_some h
      have e1 := xo_some h0
      obtain ⟨u0, ph7, h0, h⟩ := xb_some h
      refine px_cV7 (lv0 := [.ref a0, .ref p1, .int s0, .int (nI 3), va_rf none, .long a7, px_u, .long a9, px_u, .int (nI 16)]) rfl rfl e1 rfl rfl rfl (by first | rfl | (cases none <;> rfl)) rfl (by first | rfl | (cases none <;> rfl)) rfl (r_Link_define h0 :) (fun _ _ q => nomatch q.2) (fun r ph' q => ?_)
      obtain ⟨rfl, q⟩ := q
      cases q
      refine px_goto rfl (by decide) rfl ?_
      refine px_forget (n := 0) (lv' := [_, _, _, _, _, _, _, _, _, _, _, _]) rfl ?_
      refine px_forget (n := 1) (lv' := [_, _, _, _, _, _, _, _, _, _, _, _]) rfl ?_
      refine px_forget (n := 2) (lv' := [_, _, _, _, _, _, _, _, _, _, _, _]) rfl ?_
      refine px_forget (n := 5) (lv' := [_, _, _, _, _, _, _, _, _, _, _, _]) rfl ?_
      refine px_forget (n := 6) (lv' := [_, _, _, _, _, _, _, _, _, _, _, _]) rfl ?_
      refine px_forget (n := 7) (lv' := [_, _, _, _, _, _, _, _, _, _, _, _]) rfl ?_
      refine px_forget (n := 9) (lv' := [_, _, _, _, _, _, _, _, _, _, _, _]) rfl ?_
      refine px_forget (n := 11) (lv' := [_, _, _, _, _, _, _, _, _, _, _, _]) rfl ?_
      exact (r_Link_settle_212 h :)
  · replace h := (if_neg hc).symm.trans h
    refine px_ld rfl rfl rfl rfl rfl ?_
    refine px_ic (k := 2) rfl rfl rfl ?_
    refine px_icne rfl (by decide) rfl (fun hc => ?_) (fun hc => ?_)
    · replace h := (if_neg hc).symm.trans h
      refine px_forget (n := 0) (lv' := [_, _, _, _, _, _, _, _, _, _, _, _]) rfl ?_
      refine px_forget (n := 1) (lv' := [_, _, _, _, _, _, _, _, _, _, _, _]) rfl ?_
      refine px_forget (n := 2) (lv' := [_, _, _, _, _, _, _, _, _, _, _, _]) rfl ?_
      refine px_forget (n := 5) (lv' := [_, _, _, _, _, _, _, _, _, _, _, _]) rfl ?_
      refine px_forget (n := 6) (lv' := [_, _, _, _, _, _, _, _, _, _, _, _]) rfl ?_
      refine px_forget (n := 7) (lv' := [_, _, _, _, _, _, _, _, _, _, _, _]) rfl ?_
      refine px_forget (n := 9) (lv' := [_, _, _, _, _, _, _, _, _, _, _, _]) rfl ?_
      exact (r_Link_settle_127 h :)
    · replace h := (if_pos hc).symm.trans h
      refine px_ld rfl rfl rfl rfl rfl ?_
      obtain ⟨t8, h0, h⟩ := xs_some h
      obtain ⟨fs, e1, e2⟩ := xgI_some h0
      refine px_get rfl e1 e2 rfl ?_
      refine px_ic (k := 2) rfl rfl rfl ?_
      refine px_icne rfl (by decide) rfl (fun hc => ?_) (fun hc => ?_)
      · replace h := (if_neg hc).symm.trans h
        refine px_forget (n := 0) (lv' := [_, _, _, _, _, _, _, _, _, _, _, _]) rfl ?_
        refine px_forget (n := 1) (lv' := [_, _, _, _, _, _, _, _, _, _, _, _]) rfl ?_
        refine px_forget (n := 2) (lv' := [_, _, _, _, _, _, _, _, _, _, _, _]) rfl ?_
        refine px_forget (n := 5) (lv' := [_, _, _, _, _, _, _, _, _, _, _, _]) rfl ?_
        refine px_forget (n := 6) (lv' := [_, _, _, _, _, _, _, _, _, _, _, _]) rfl ?_
        refine px_forget (n := 7) (lv' := [_, _, _, _, _, _, _, _, _, _, _, _]) rfl ?_
        refine px_forget (n := 9) (lv' := [_, _, _, _, _, _, _, _, _, _, _, _]) rfl ?_
        exact (r_Link_settle_127 h :)
      · replace h := (if_pos hc).symm.trans h
        refine px_ld rfl rfl rfl rfl rfl ?_
        refine px_ld rfl rfl rfl rfl rfl ?_
        obtain ⟨t9, h0, h⟩ := xs_some h
        obtain ⟨fs, e1, e2⟩ := xgJ_some h0
        refine px_get rfl e1 e2 rfl ?_
        refine px_ld rfl rfl rfl rfl rfl ?_
        refine px_maxl rfl rfl rfl ?_
        obtain ⟨ph10, h0, h⟩ := xs_some h
        obtain ⟨fs, e1, e2, e3⟩ := xpJ_some h0
        subst e3
        refine px_put rfl e1 e2 trivial rfl ?_
        refine px_ld rfl rfl rfl rfl rfl ?_
        refine px_ld rfl rfl rfl rfl rfl ?_
        obtain ⟨t11, h0, h⟩ := xs_some h
        obtain ⟨fs, e1, e2⟩ := xgJ_some h0
        refine px_get rfl e1 e2 rfl ?_
        refine px_ld rfl rfl rfl rfl rfl ?_
        refine px_maxl rfl rfl rfl ?_
        obtain ⟨ph12, h0, h⟩ := xs_some h
        obtain ⟨fs, e1, e2, e3⟩ := xpJ_some h0
        subst e3
        refine px_put rfl e1 e2 trivial rfl ?_
        refine px_forget (n := 0) (lv' := [_, _, _, _, _, _, _, _, _, _, _, _]) rfl ?_
        refine px_forget (n := 1) (lv' := [_, _, _, _, _, _, _, _, _, _, _, _]) rfl ?_
        refine px_forget (n := 2) (lv' := [_, _, _, _, _, _, _, _, _, _, _, _]) rfl ?_
        refine px_forget (n := 5) (lv' := [_, _, _, _, _, _, _, _, _, _, _, _]) rfl ?_
        refine px_forget (n := 6) (lv' := [_, _, _, _, _, _, _, _, _, _, _, _]) rfl ?_
        refine px_forget (n := 7) (lv' := [_, _, _, _, _, _, _, _, _, _, _, _]) rfl ?_
        refine px_forget (n := 9) (lv' := [_, _, _, _, _, _, _, _, _, _, _, _]) rfl ?_
        exact (r_Link_settle_127 h :)
def f_Link_settle (F : Nat) (c : px_CT) (a0 : Nat) (a1 : Option Nat) (a2 : Int32) (a3 : Option Nat) (a4 : Int32) (ph : px_H) : Option (Int32 × px_H) :=
  (a3).bind fun p1 =>
  (xo ph 7 p1).bind fun _ =>
  xb (f_ObjectFile_num F c p1 (a4 + (nI 4)) (nI 1) ph) fun t2 ph3 =>
  (xo ph3 7 p1).bind fun _ =>
  xb (f_ObjectFile_num F c p1 (a4 + (nI 6)) (nI 2) ph3) fun t4 ph5 =>
  (xo ph5 7 p1).bind fun _ =>
  xb (f_ObjectFile_num F c p1 (a4 + (nI 8)) (nI 8) ph5) fun t6 ph7 =>
  (xo ph7 7 p1).bind fun _ =>
  xb (f_ObjectFile_num F c p1 (a4 + (nI 16)) (nI 8) ph7) fun t8 ph9 =>
  if t4.toInt32 = ((65522 : Int32)) then
    f_Link_settle_76 F c a0 a1 a2 t2.toInt32 t4.toInt32 t6 t8 (nI 2) ph9
  else
    if (t2.toInt32 >>> ((nI 4) &&& 31)) = (nI 1) then
      f_Link_settle_76 F c a0 a1 a2 t2.toInt32 t4.toInt32 t6 t8 (nI 3) ph9
    else
      f_Link_settle_76 F c a0 a1 a2 t2.toInt32 t4.toInt32 t6 t8 (nI 1) ph9
theorem r_Link_settle {l : Launch} {g : px_G} {d F : Nat} {a0 : Nat} {a1 : Option Nat} {a2 : Int32} {a3 : Option Nat} {a4 : Int32} {ph : px_H} {r : Int32} {ph' : px_H} (h : f_Link_settle F (px_ct g) a0 a1 a2 a3 a4 ph = some (r, ph')) : PW l g (d + 1) m_Link_settle 0 [.ref a0, va_rf a1, .int a2, va_rf a3, .int a4, px_u, px_u, px_u, px_u, px_u, px_u, px_u] [] ph (px_qI r ph') := by
  unfold f_Link_settle at h
  refine px_ld rfl rfl rfl (by first | rfl | (cases a3 <;> rfl)) rfl ?_
  refine px_ld rfl rfl rfl rfl rfl ?_
  refine px_ic (k := 4) rfl rfl rfl ?_
  refine px_alu rfl rfl rfl ?_
  refine px_ic (k := 1) rfl rfl rfl ?_
  obtain ⟨p1, h0, h⟩ := xs_some h
  revert h
  subst h0
  intro h
  obtain ⟨fs, h0, h⟩ := xs_some h
  have e1 := xo_some h0
  obtain ⟨t2, ph3, h0, h⟩ := xb_some h
  refine px_cV2 rfl rfl e1 rfl rfl rfl rfl rfl rfl rfl (r_ObjectFile_num h0 :) (fun _ _ q => nomatch q.2) (fun r ph' q => ?_)
  obtain ⟨rfl, q⟩ := q
  cases q
  refine px_alu rfl rfl rfl ?_
  refine px_st (lv' := [_, _, _, _, _, _, _, _, _, _, _, _]) rfl rfl rfl rfl rfl rfl rfl ?_
  refine px_ld rfl rfl rfl rfl rfl ?_
  refine px_ld rfl rfl rfl rfl rfl ?_
  refine px_ic (k := 6) rfl rfl rfl ?_
  refine px_alu rfl rfl rfl ?_
  refine px_ic (k := 2) rfl rfl rfl ?_
  obtain ⟨fs, h0, h⟩ := xs_some h
  have e1 := xo_some h0
  obtain ⟨t4, ph5, h0, h⟩ := xb_some h
  refine px_cV2 rfl rfl e1 rfl rfl rfl rfl rfl rfl rfl (r_ObjectFile_num h0 :) (fun _ _ q => nomatch q.2) (fun r ph' q => ?_)
  obtain ⟨rfl, q⟩ := q
  cases q
  refine px_alu rfl rfl rfl ?_
  refine px_st (lv' := [_, _, _, _, _, _, _, _, _, _, _, _]) rfl rfl rfl rfl rfl rfl rfl ?_
  refine px_ld rfl rfl rfl rfl rfl ?_
  refine px_ld rfl rfl rfl rfl rfl ?_
  refine px_ic (k := 8) rfl rfl rfl ?_
  refine px_alu rfl rfl rfl ?_
  refine px_ic (k := 8) rfl rfl rfl ?_
  obtain ⟨fs, h0, h⟩ := xs_some h
  have e1 := xo_some h0
  obtain ⟨t6, ph7, h0, h⟩ := xb_some h
  refine px_cV2 rfl rfl e1 rfl rfl rfl rfl rfl rfl rfl (r_ObjectFile_num h0 :) (fun _ _ q => nomatch q.2) (fun r ph' q => ?_)
  obtain ⟨rfl, q⟩ := q
  cases q
  refine px_st (lv' := [_, _, _, _, _, _, _, _, _, _, _, _]) rfl rfl rfl rfl rfl rfl rfl ?_
  refine px_ld rfl rfl rfl rfl rfl ?_
  refine px_ld rfl rfl rfl rfl rfl ?_
  refine px_ic (k := 16) rfl rfl rfl ?_
  refine px_alu rfl rfl rfl ?_
  refine px_ic (k := 8) rfl rfl rfl ?_
  obtain ⟨fs, h0, h⟩ := xs_some h
  have e1 := xo_some h0
  obtain ⟨t8, ph9, h0, h⟩ := xb_some h
  refine px_cV2 rfl rfl e1 rfl rfl rfl rfl rfl rfl rfl (r_ObjectFile_num h0 :) (fun _ _ q => nomatch q.2) (fun r ph' q => ?_)
  obtain ⟨rfl, q⟩ := q
  cases q
  refine px_st (lv' := [_, _, _, _, _, _, _, _, _, _, _, _]) rfl rfl rfl rfl rfl rfl rfl ?_
  refine px_ld rfl rfl rfl rfl rfl ?_
  refine px_ldcw rfl (by decide) rfl rfl ?_
  refine px_icne rfl (by decide) rfl (fun hc => ?_) (fun hc => ?_)
  · replace h := (if_neg hc).symm.trans h
    refine px_ld rfl rfl rfl rfl rfl ?_
    refine px_ic (k := 4) rfl rfl rfl ?_
    refine px_alu rfl rfl rfl ?_
    refine px_ic (k := 1) rfl rfl rfl ?_
    refine px_icne rfl (by decide) rfl (fun hc => ?_) (fun hc => ?_)
    · replace h := (if_neg hc).symm.trans h
      refine px_ic (k := 1) rfl rfl rfl ?_
      refine px_forget (n := 3) (lv' := [_, _, _, _, _, _, _, _, _, _, _, _]) rfl ?_
      refine px_forget (n := 4) (lv' := [_, _, _, _, _, _, _, _, _, _, _, _]) rfl ?_
      exact (r_Link_settle_76 h :)
    · replace h := (if_pos hc).symm.trans h
      refine px_ic (k := 3) rfl rfl rfl ?_
      refine px_goto rfl (by decide) rfl ?_
      refine px_forget (n := 3) (lv' := [_, _, _, _, _, _, _, _, _, _, _, _]) rfl ?_
      refine px_forget (n := 4) (lv' := [_, _, _, _, _, _, _, _, _, _, _, _]) rfl ?_
      exact (r_Link_settle_76 h :)
  · replace h := (if_pos hc).symm.trans h
    refine px_ic (k := 2) rfl rfl rfl ?_
    refine px_goto rfl (by decide) rfl ?_
    refine px_forget (n := 3) (lv' := [_, _, _, _, _, _, _, _, _, _, _, _]) rfl ?_
    refine px_forget (n := 4) (lv' := [_, _, _, _, _, _, _, _, _, _, _, _]) rfl ?_
    exact (r_Link_settle_76 h :)
def f_Link_defineNames_135 (F : Nat) (c : px_CT) (ph : px_H) : Option (Int32 × px_H) :=
  some (nI 1, ph)
theorem r_Link_defineNames_135 {l : Launch} {g : px_G} {d F : Nat} {ph : px_H} {r : Int32} {ph' : px_H} (h : f_Link_defineNames_135 F (px_ct g) ph = some (r, ph')) : PW l g (d + 2) m_Link_defineNames 135 [px_u, px_u, px_u, px_u, px_u, px_u, px_u] [] ph (px_qI r ph') := by
  unfold f_Link_defineNames_135 at h
  refine px_ic (k := 1) rfl rfl rfl ?_
  cases h
  exact px_iret rfl (Or.inr ⟨rfl, Or.inr rfl⟩) rfl ⟨rfl, rfl⟩
def f_Link_defineNames_129 (F : Nat) (c : px_CT) (k2 : Nat → Int32 → Option Nat → Int32 → px_H → Option (Int32 × px_H)) (a0 : Nat) (a1 : Int32) (a2 : Option Nat) (a3 : Int32) (ph : px_H) : Option (Int32 × px_H) :=
  k2 a0 a1 a2 (a3 + nI 1) ph
theorem r_Link_defineNames_129 {l : Launch} {g : px_G} {d F : Nat} {k2 : Nat → Int32 → Option Nat → Int32 → px_H → Option (Int32 × px_H)} (hk2 : ∀ {a0 : Nat} {a1 : Int32} {a2 : Option Nat} {a3 : Int32} {ph : px_H} {r : Int32} {ph' : px_H}, k2 a0 a1 a2 a3 ph = some (r, ph') → PW l g (d + 2) m_Link_defineNames 2 [.ref a0, .int a1, va_rf a2, .int a3, px_u, px_u, px_u] [] ph (px_qI r ph')) {a0 : Nat} {a1 : Int32} {a2 : Option Nat} {a3 : Int32} {ph : px_H} {r : Int32} {ph' : px_H} (h : f_Link_defineNames_129 F (px_ct g) k2 a0 a1 a2 a3 ph = some (r, ph')) : PW l g (d + 2) m_Link_defineNames 129 [.ref a0, .int a1, va_rf a2, .int a3, px_u, px_u, px_u] [] ph (px_qI r ph') := by
  unfold f_Link_defineNames_129 at h
  refine px_iinc (lv' := [_, _, _, _, _, _, _]) rfl rfl rfl (by first | rfl | (cases a2 <;> rfl)) rfl rfl ?_
  refine px_goto rfl (by decide) rfl ?_
  exact (hk2 h :)
def f_Link_defineNames_121 (F : Nat) (c : px_CT) (a0 : Nat) (a4 : Option Nat) (ph : px_H) : Option (Int32 × px_H) :=
  (xpN ph 3 13 a0 a4).bind fun ph1 =>
  some (nI 0, ph1)
theorem r_Link_defineNames_121 {l : Launch} {g : px_G} {d F : Nat} {a0 : Nat} {a4 : Option Nat} {ph : px_H} {r : Int32} {ph' : px_H} (h : f_Link_defineNames_121 F (px_ct g) a0 a4 ph = some (r, ph')) : PW l g (d + 2) m_Link_defineNames 121 [.ref a0, px_u, px_u, px_u, va_rf a4, px_u, px_u] [] ph (px_qI r ph') := by
  unfold f_Link_defineNames_121 at h
  refine px_ld rfl rfl rfl rfl rfl ?_
  refine px_ld rfl rfl rfl (by first | rfl | (cases a4 <;> rfl)) rfl ?_
  obtain ⟨ph1, h0, h⟩ := xs_some h
  obtain ⟨fs, e1, e2, e3⟩ := xpN_some h0
  subst e3
  refine px_put rfl e1 e2 (by first | trivial | (cases a4 <;> trivial)) rfl ?_
  refine px_ic (k := 0) rfl rfl rfl ?_
  cases h
  exact px_iret rfl (Or.inr ⟨rfl, Or.inl rfl⟩) rfl ⟨rfl, rfl⟩
def f_Link_defineNames_95 (F : Nat) (c : px_CT) (k2 : Nat → Int32 → Option Nat → Int32 → px_H → Option (Int32 × px_H)) (a0 : Nat) (a1 : Int32) (a2 : Option Nat) (a3 : Int32) (s0 : Option Nat) (s1 : Int32) (ph : px_H) : Option (Int32 × px_H) :=
  (s0).bind fun p1 =>
  (xpZ ph 5 10 p1 s1).bind fun ph2 =>
  f_Link_defineNames_129 F c k2 a0 a1 a2 a3 ph2
theorem r_Link_defineNames_95 {l : Launch} {g : px_G} {d F : Nat} {k2 : Nat → Int32 → Option Nat → Int32 → px_H → Option (Int32 × px_H)} (hk2 : ∀ {a0 : Nat} {a1 : Int32} {a2 : Option Nat} {a3 : Int32} {ph : px_H} {r : Int32} {ph' : px_H}, k2 a0 a1 a2 a3 ph = some (r, ph') → PW l g (d + 2) m_Link_defineNames 2 [.ref a0, .int a1, va_rf a2, .int a3, px_u, px_u, px_u] [] ph (px_qI r ph')) {a0 : Nat} {a1 : Int32} {a2 : Option Nat} {a3 : Int32} {s0 : Option Nat} {s1 : Int32} {ph : px_H} {r : Int32} {ph' : px_H} (h : f_Link_defineNames_95 F (px_ct g) k2 a0 a1 a2 a3 s0 s1 ph = some (r, ph')) : PW l g (d + 2) m_Link_defineNames 95 [.ref a0, .int a1, va_rf a2, .int a3, px_u, px_u, px_u] [.int s1, va_rf s0] ph (px_qI r ph') := by
  unfold f_Link_defineNames_95 at h
  obtain ⟨p1, h0, h⟩ := xs_some h
  revert h
  subst h0
  intro h
  obtain ⟨ph2, h0, h⟩ := xs_some h
  obtain ⟨fs, e1, e2, e3, e4⟩ := xpZ_some h0
  subst e3
  refine px_put rfl e1 e2 e4 rfl ?_
  refine px_goto rfl (by decide) rfl ?_
  exact (r_Link_defineNames_129 @hk2 h :)
def f_Link_defineNames_90 (F : Nat) (c : px_CT) (k2 : Nat → Int32 → Option Nat → Int32 → px_H → Option (Int32 × px_H)) (a0 : Nat) (a1 : Int32) (a2 : Option Nat) (a3 : Int32) (s0 : Option Nat) (ph : px_H) : Option (Int32 × px_H) :=
  f_Link_defineNames_95 F c k2 a0 a1 a2 a3 s0 (nI 1) ph
theorem r_Link_defineNames_90 {l : Launch} {g : px_G} {d F : Nat} {k2 : Nat → Int32 → Option Nat → Int32 → px_H → Option (Int32 × px_H)} (hk2 : ∀ {a0 : Nat} {a1 : Int32} {a2 : Option Nat} {a3 : Int32} {ph : px_H} {r : Int32} {ph' : px_H}, k2 a0 a1 a2 a3 ph = some (r, ph') → PW l g (d + 2) m_Link_defineNames 2 [.ref a0, .int a1, va_rf a2, .int a3, px_u, px_u, px_u] [] ph (px_qI r ph')) {a0 : Nat} {a1 : Int32} {a2 : Option Nat} {a3 : Int32} {s0 : Option Nat} {ph : px_H} {r : Int32} {ph' : px_H} (h : f_Link_defineNames_90 F (px_ct g) k2 a0 a1 a2 a3 s0 ph = some (r, ph')) : PW l g (d + 2) m_Link_defineNames 90 [.ref a0, .int a1, va_rf a2, .int a3, px_u, px_u, px_u] [va_rf s0] ph (px_qI r ph') := by
  unfold f_Link_defineNames_90 at h
  refine px_ic (k := 1) rfl rfl rfl ?_
  refine px_goto rfl (by decide) rfl ?_
  exact (r_Link_defineNames_95 @hk2 h :)
def f_Link_defineNames_71 (F : Nat) (c : px_CT) (k2 : Nat → Int32 → Option Nat → Int32 → px_H → Option (Int32 × px_H)) (a0 : Nat) (a1 : Int32) (a2 : Option Nat) (a3 : Int32) (a4 : Option Nat) (ph : px_H) : Option (Int32 × px_H) :=
  (a4).bind fun p1 =>
  (xgI ph 5 10 p1).bind fun t2 =>
  if t2 = 0 then
    (a2).bind fun p3 =>
    (xo ph 7 p3).bind fun _ =>
    xb (f_ObjectFile_bindOf F c p3 a3 ph) fun t4 ph5 =>
    if t4 = (nI 1) then
      f_Link_defineNames_90 F c k2 a0 a1 (some p3) a3 (some p1) ph5
    else
      f_Link_defineNames_95 F c k2 a0 a1 (some p3) a3 (some p1) (nI 0) ph5
  else
    f_Link_defineNames_90 F c k2 a0 a1 a2 a3 (some p1) ph
theorem r_Link_defineNames_71 {l : Launch} {g : px_G} {d F : Nat} {k2 : Nat → Int32 → Option Nat → Int32 → px_H → Option (Int32 × px_H)} (hk2 : ∀ {a0 : Nat} {a1 : Int32} {a2 : Option Nat} {a3 : Int32} {ph : px_H} {r : Int32} {ph' : px_H}, k2 a0 a1 a2 a3 ph = some (r, ph') → PW l g (d + 2) m_Link_defineNames 2 [.ref a0, .int a1, va_rf a2, .int a3, px_u, px_u, px_u] [] ph (px_qI r ph')) {a0 : Nat} {a1 : Int32} {a2 : Option Nat} {a3 : Int32} {a4 : Option Nat} {ph : px_H} {r : Int32} {ph' : px_H} (h : f_Link_defineNames_71 F (px_ct g) k2 a0 a1 a2 a3 a4 ph = some (r, ph')) : PW l g (d + 2) m_Link_defineNames 71 [.ref a0, .int a1, va_rf a2, .int a3, va_rf a4, px_u, px_u] [] ph (px_qI r ph') := by
  unfold f_Link_defineNames_71 at h
  refine px_ld rfl rfl rfl (by first | rfl | (cases a4 <;> rfl)) rfl ?_
  refine px_ld rfl rfl rfl (by first | rfl | (cases a4 <;> rfl)) rfl ?_
  obtain ⟨p1, h0, h⟩ := xs_some h
  revert h
  subst h0
  intro h
  obtain ⟨t2, h0, h⟩ := xs_some h
  obtain ⟨fs, e1, e2⟩ := xgI_some h0
  refine px_get rfl e1 e2 rfl ?_
  refine px_ifne rfl (by decide) rfl (fun hc => ?_) (fun hc => ?_)
  · replace h := (if_neg hc).symm.trans h
    refine px_forget (n := 4) (lv' := [_, _, _, _, _, _, _]) rfl ?_
    exact (r_Link_defineNames_90 @hk2 h :)
  · replace h := (if_pos hc).symm.trans h
    refine px_ld rfl rfl rfl (by first | rfl | (cases a2 <;> rfl)) rfl ?_
    refine px_ld rfl rfl rfl rfl rfl ?_
    obtain ⟨p3, h0, h⟩ := xs_some h
    revert h
    subst h0
    intro h
    obtain ⟨fs, h0, h⟩ := xs_some h
    have e1 := xo_some h0
    obtain ⟨t4, ph5, h0, h⟩ := xb_some h
    refine px_cV1 rfl rfl e1 rfl rfl rfl rfl rfl rfl rfl (r_ObjectFile_bindOf h0 :) (fun _ _ q => nomatch q.2) (fun r ph' q => ?_)
    obtain ⟨rfl, q⟩ := q
    cases q
    refine px_ic (k := 1) rfl rfl rfl ?_
    refine px_icne rfl (by decide) rfl (fun hc => ?_) (fun hc => ?_)
    · replace h := (if_neg hc).symm.trans h
      refine px_ic (k := 0) rfl rfl rfl ?_
      refine px_forget (n := 4) (lv' := [_, _, _, _, _, _, _]) rfl ?_
      exact (r_Link_defineNames_95 @hk2 h :)
    · replace h := (if_pos hc).symm.trans h
      refine px_forget (n := 4) (lv' := [_, _, _, _, _, _, _]) rfl ?_
      exact (r_Link_defineNames_90 @hk2 h :)
def f_Link_defineNames_59 (F : Nat) (c : px_CT) (k2 : Nat → Int32 → Option Nat → Int32 → px_H → Option (Int32 × px_H)) (a0 : Nat) (a1 : Int32) (a2 : Option Nat) (a3 : Int32) (a4 : Option Nat) (a5 : Int32) (s0 : Int32) (ph : px_H) : Option (Int32 × px_H) :=
  if a5 = 0 then
    f_Link_defineNames_71 F c k2 a0 a1 a2 a3 a4 ph
  else
    if s0 = 0 then
      (a2).bind fun p1 =>
      (xgI ph 7 10 p1).bind fun t2 =>
      (xo ph 3 a0).bind fun _ =>
      xb (f_Link_settle F c a0 a4 a1 (some p1) (t2 + ((nI 24) * a3)) ph) fun t3 ph4 =>
      if t3 = 0 then
        f_Link_defineNames_121 F c a0 a4 ph4
      else
        f_Link_defineNames_129 F c k2 a0 a1 (some p1) a3 ph4
    else
      f_Link_defineNames_71 F c k2 a0 a1 a2 a3 a4 ph
theorem r_Link_defineNames_59 {l : Launch} {g : px_G} {d F : Nat} {k2 : Nat → Int32 → Option Nat → Int32 → px_H → Option (Int32 × px_H)} (hk2 : ∀ {a0 : Nat} {a1 : Int32} {a2 : Option Nat} {a3 : Int32} {ph : px_H} {r : Int32} {ph' : px_H}, k2 a0 a1 a2 a3 ph = some (r, ph') → PW l g (d + 2) m_Link_defineNames 2 [.ref a0, .int a1, va_rf a2, .int a3, px_u, px_u, px_u] [] ph (px_qI r ph')) {a0 : Nat} {a1 : Int32} {a2 : Option Nat} {a3 : Int32} {a4 : Option Nat} {a5 : Int32} {s0 : Int32} {ph : px_H} {r : Int32} {ph' : px_H} (h : f_Link_defineNames_59 F (px_ct g) k2 a0 a1 a2 a3 a4 a5 s0 ph = some (r, ph')) : PW l g (d + 2) m_Link_defineNames 59 [.ref a0, .int a1, va_rf a2, .int a3, va_rf a4, .int a5, px_u] [.int s0] ph (px_qI r ph') := by
  unfold f_Link_defineNames_59 at h
  refine px_st (lv' := [_, _, _, _, _, _, _]) rfl rfl rfl rfl rfl rfl rfl ?_
  refine px_ld rfl rfl rfl rfl rfl ?_
  refine px_ifeq rfl (by decide) rfl (fun hc => ?_) (fun hc => ?_)
  · replace h := (if_pos hc).symm.trans h
    refine px_forget (n := 5) (lv' := [_, _, _, _, _, _, _]) rfl ?_
    refine px_forget (n := 6) (lv' := [_, _, _, _, _, _, _]) rfl ?_
    exact (r_Link_defineNames_71 @hk2 h :)
  · replace h := (if_neg hc).symm.trans h
    refine px_ld rfl rfl rfl rfl rfl ?_
    refine px_ifeq rfl (by decide) rfl (fun hc => ?_) (fun hc => ?_)
    · replace h := (if_pos hc).symm.trans h
      refine px_ld rfl rfl rfl rfl rfl ?_
      refine px_ld rfl rfl rfl (by first | rfl | (cases a4 <;> rfl)) rfl ?_
      refine px_ld rfl rfl rfl rfl rfl ?_
      refine px_ld rfl rfl rfl (by first | rfl | (cases a2 <;> rfl)) rfl ?_
      refine px_ld rfl rfl rfl (by first | rfl | (cases a2 <;> rfl)) rfl ?_
      obtain ⟨p1, h0, h⟩ := xs_some h
      revert h
      subst h0
      intro h
      obtain ⟨t2, h0, h⟩ := xs_some h
      obtain ⟨fs, e1, e2⟩ := xgI_some h0
      refine px_get rfl e1 e2 rfl ?_
      refine px_ic (k := 24) rfl rfl rfl ?_
      refine px_ld rfl rfl rfl rfl rfl ?_
      refine px_alu rfl rfl rfl ?_
      refine px_alu rfl rfl rfl ?_
      obtain ⟨fs, h0, h⟩ := xs_some h
      have e1 := xo_some h0
      obtain ⟨t3, ph4, h0, h⟩ := xb_some h
      refine px_cV4 (lv0 := [.ref a0, va_rf a4, .int a1, .ref p1, .int (t2 + ((nI 24) * a3)), px_u, px_u, px_u, px_u, px_u, px_u, px_u]) rfl rfl e1 rfl rfl rfl (by first | rfl | (cases a4 <;> rfl)) rfl (by first | rfl | (cases a4 <;> rfl)) rfl (r_Link_settle h0 :) (fun _ _ q => nomatch q.2) (fun r ph' q => ?_)
      obtain ⟨rfl, q⟩ := q
      cases q
      refine px_ifne rfl (by decide) rfl (fun hc => ?_) (fun hc => ?_)
      · replace h := (if_neg hc).symm.trans h
        refine px_forget (n := 4) (lv' := [_, _, _, _, _, _, _]) rfl ?_
        refine px_forget (n := 5) (lv' := [_, _, _, _, _, _, _]) rfl ?_
        refine px_forget (n := 6) (lv' := [_, _, _, _, _, _, _]) rfl ?_
        exact (r_Link_defineNames_129 @hk2 h :)
      · replace h := (if_pos hc).symm.trans h
        refine px_forget (n := 1) (lv' := [_, _, _, _, _, _, _]) rfl ?_
        refine px_forget (n := 2) (lv' := [_, _, _, _, _, _, _]) rfl ?_
        refine px_forget (n := 3) (lv' := [_, _, _, _, _, _, _]) rfl ?_
        refine px_forget (n := 5) (lv' := [_, _, _, _, _, _, _]) rfl ?_
        refine px_forget (n := 6) (lv' := [_, _, _, _, _, _, _]) rfl ?_
        exact (r_Link_defineNames_121 h :)
    · replace h := (if_neg hc).symm.trans h
      refine px_forget (n := 5) (lv' := [_, _, _, _, _, _, _]) rfl ?_
      refine px_forget (n := 6) (lv' := [_, _, _, _, _, _, _]) rfl ?_
      exact (r_Link_defineNames_71 @hk2 h :)
def f_Link_defineNames_58 (F : Nat) (c : px_CT) (k2 : Nat → Int32 → Option Nat → Int32 → px_H → Option (Int32 × px_H)) (a0 : Nat) (a1 : Int32) (a2 : Option Nat) (a3 : Int32) (a4 : Option Nat) (a5 : Int32) (ph : px_H) : Option (Int32 × px_H) :=
  f_Link_defineNames_59 F c k2 a0 a1 a2 a3 a4 a5 (nI 0) ph
theorem r_Link_defineNames_58 {l : Launch} {g : px_G} {d F : Nat} {k2 : Nat → Int32 → Option Nat → Int32 → px_H → Option (Int32 × px_H)} (hk2 : ∀ {a0 : Nat} {a1 : Int32} {a2 : Option Nat} {a3 : Int32} {ph : px_H} {r : Int32} {ph' : px_H}, k2 a0 a1 a2 a3 ph = some (r, ph') → PW l g (d + 2) m_Link_defineNames 2 [.ref a0, .int a1, va_rf a2, .int a3, px_u, px_u, px_u] [] ph (px_qI r ph')) {a0 : Nat} {a1 : Int32} {a2 : Option Nat} {a3 : Int32} {a4 : Option Nat} {a5 : Int32} {ph : px_H} {r : Int32} {ph' : px_H} (h : f_Link_defineNames_58 F (px_ct g) k2 a0 a1 a2 a3 a4 a5 ph = some (r, ph')) : PW l g (d + 2) m_Link_defineNames 58 [.ref a0, .int a1, va_rf a2, .int a3, va_rf a4, .int a5, px_u] [] ph (px_qI r ph') := by
  unfold f_Link_defineNames_58 at h
  refine px_ic (k := 0) rfl rfl rfl ?_
  exact (r_Link_defineNames_59 @hk2 h :)
def f_Link_defineNames_2 (F : Nat) (c : px_CT) : Nat → Nat → Int32 → Option Nat → Int32 → px_H → Option (Int32 × px_H)
  | 0, _, _, _, _, _ => none
  | n + 1, a0, a1, a2, a3, ph =>
    (a2).bind fun p1 =>
    (xgI ph 7 11 p1).bind fun t2 =>
    if t2 ≤ a3 then
      f_Link_defineNames_135 F c ph
    else
      (xo ph 3 a0).bind fun _ =>
      xb (f_Link_nameOf F c a0 a1 a3 ph) fun t3 ph4 =>
      (match t3 with
        | none => f_Link_defineNames_129 F c (f_Link_defineNames_2 F c n) a0 a1 (some p1) a3 ph4
        | some p5 => (xo ph4 7 p1).bind fun _ =>
        xb (f_ObjectFile_whereOf F c p1 a3 ph4) fun t6 ph7 =>
        if (nI 24) ≤ t6 then
          f_Link_defineNames_58 F c (f_Link_defineNames_2 F c n) a0 a1 (some p1) a3 (some p5) t6 ph7
        else
          (xo ph7 3 a0).bind fun _ =>
          xb (f_Link_part F c a0 a1 t6 ph7) fun t8 ph9 =>
          (t8).bind fun p10 =>
          (xgI ph9 8 8 p10).bind fun t11 =>
          if t11 = (nI 2) then
            f_Link_defineNames_59 F c (f_Link_defineNames_2 F c n) a0 a1 (some p1) a3 (some p5) t6 (nI 1) ph9
          else
            f_Link_defineNames_58 F c (f_Link_defineNames_2 F c n) a0 a1 (some p1) a3 (some p5) t6 ph9)
theorem r_Link_defineNames_2 {l : Launch} {g : px_G} {d F : Nat} : ∀ (n : Nat) {a0 : Nat} {a1 : Int32} {a2 : Option Nat} {a3 : Int32} {ph : px_H} {r : Int32} {ph' : px_H}, f_Link_defineNames_2 F (px_ct g) n a0 a1 a2 a3 ph = some (r, ph') → PW l g (d + 2) m_Link_defineNames 2 [.ref a0, .int a1, va_rf a2, .int a3, px_u, px_u, px_u] [] ph (px_qI r ph') := by
  intro n
  induction n with
  | zero => intro _ _ _ _ _ _ _ h; cases h
  | succ n ih =>
    intro a0 a1 a2 a3 ph r ph' h
    unfold f_Link_defineNames_2 at h
    refine px_ld rfl rfl rfl rfl rfl ?_
    refine px_ld rfl rfl rfl (by first | rfl | (cases a2 <;> rfl)) rfl ?_
    obtain ⟨p1, h0, h⟩ := xs_some h
    revert h
    subst h0
    intro h
    obtain ⟨t2, h0, h⟩ := xs_some h
    obtain ⟨fs, e1, e2⟩ := xgI_some h0
    refine px_get rfl e1 e2 rfl ?_
    refine px_icge rfl (by decide) rfl (fun hc => ?_) (fun hc => ?_)
    · replace h := (if_pos hc).symm.trans h
      refine px_forget (n := 0) (lv' := [_, _, _, _, _, _, _]) rfl ?_
      refine px_forget (n := 1) (lv' := [_, _, _, _, _, _, _]) rfl ?_
      refine px_forget (n := 2) (lv' := [_, _, _, _, _, _, _]) rfl ?_
      refine px_forget (n := 3) (lv' := [_, _, _, _, _, _, _]) rfl ?_
      exact (r_Link_defineNames_135 h :)
    · replace h := (if_neg hc).symm.trans h
      refine px_ld rfl rfl rfl rfl rfl ?_
      refine px_ld rfl rfl rfl rfl rfl ?_
      refine px_ld rfl rfl rfl rfl rfl ?_
      obtain ⟨fs, h0, h⟩ := xs_some h
      have e1 := xo_some h0
      obtain ⟨t3, ph4, h0, h⟩ := xb_some h
      refine px_cV2 rfl rfl e1 rfl rfl rfl rfl rfl rfl rfl (r_Link_nameOf h0 :) (fun _ _ q => nomatch q.2) (fun r ph' q => ?_)
      obtain ⟨rfl, q⟩ := q
      cases q
      refine px_st (lv' := [.ref a0, .int a1, .ref p1, .int a3, va_rf t3, px_u, px_u]) rfl rfl (by first | rfl | (cases t3 <;> rfl)) (by first | rfl | (cases t3 <;> rfl)) rfl (by first | rfl | (cases t3 <;> rfl)) rfl ?_
      refine px_ld rfl rfl rfl (by first | rfl | (cases t3 <;> rfl)) rfl ?_
      cases t3 with
      | none =>
        refine px_ifnnN rfl rfl ?_
        refine px_goto rfl (by decide) rfl ?_
        refine px_forget (n := 4) (lv' := [_, _, _, _, _, _, _]) rfl ?_
        exact (r_Link_defineNames_129 @ih h :)
      | some p5 =>
        refine px_ifnnR rfl (by decide) rfl ?_
        refine px_ld rfl rfl rfl rfl rfl ?_
        refine px_ld rfl rfl rfl rfl rfl ?_
        obtain ⟨fs, h0, h⟩ := xs_some h
        have e1 := xo_some h0
        obtain ⟨t6, ph7, h0, h⟩ := xb_some h
        refine px_cV1 rfl rfl e1 rfl rfl rfl rfl rfl rfl rfl (r_ObjectFile_whereOf h0 :) (fun _ _ q => nomatch q.2) (fun r ph' q => ?_)
        obtain ⟨rfl, q⟩ := q
        cases q
        refine px_st (lv' := [_, _, _, _, _, _, _]) rfl rfl rfl rfl rfl rfl rfl ?_
        refine px_ld rfl rfl rfl rfl rfl ?_
        refine px_ic (k := 24) rfl rfl rfl ?_
        refine px_icge rfl (by decide) rfl (fun hc => ?_) (fun hc => ?_)
        · replace h := (if_pos hc).symm.trans h
          exact (r_Link_defineNames_58 @ih h :)
        · replace h := (if_neg hc).symm.trans h
          refine px_ld rfl rfl rfl rfl rfl ?_
          refine px_ld rfl rfl rfl rfl rfl ?_
          refine px_ld rfl rfl rfl rfl rfl ?_
          obtain ⟨fs, h0, h⟩ := xs_some h
          have e1 := xo_some h0
          obtain ⟨t8, ph9, h0, h⟩ := xb_some h
          refine px_cV2 rfl rfl e1 rfl rfl rfl rfl rfl rfl rfl (r_Link_part h0 :) (fun _ _ q => nomatch q.2) (fun r ph' q => ?_)
          obtain ⟨rfl, q⟩ := q
          cases q
          obtain ⟨p10, h0, h⟩ := xs_some h
          revert h
          subst h0
          intro h
          obtain ⟨t11, h0, h⟩ := xs_some h
          obtain ⟨fs, e1, e2⟩ := xgI_some h0
          refine px_get rfl e1 e2 rfl ?_
          refine px_ic (k := 2) rfl rfl rfl ?_
          refine px_icne rfl (by decide) rfl (fun hc => ?_) (fun hc => ?_)
          · replace h := (if_neg hc).symm.trans h
            exact (r_Link_defineNames_58 @ih h :)
          · replace h := (if_pos hc).symm.trans h
            refine px_ic (k := 1) rfl rfl rfl ?_
            refine px_goto rfl (by decide) rfl ?_
            exact (r_Link_defineNames_59 @ih h :)
def f_Link_defineNames (F : Nat) (c : px_CT) (a0 : Nat) (a1 : Int32) (a2 : Option Nat) (ph : px_H) : Option (Int32 × px_H) :=
  f_Link_defineNames_2 F c F a0 a1 a2 (nI 1) ph
theorem r_Link_defineNames {l : Launch} {g : px_G} {d F : Nat} {a0 : Nat} {a1 : Int32} {a2 : Option Nat} {ph : px_H} {r : Int32} {ph' : px_H} (h : f_Link_defineNames F (px_ct g) a0 a1 a2 ph = some (r, ph')) : PW l g (d + 2) m_Link_defineNames 0 [.ref a0, .int a1, va_rf a2, px_u, px_u, px_u, px_u] [] ph (px_qI r ph') := by
  unfold f_Link_defineNames at h
  refine px_ic (k := 1) rfl rfl rfl ?_
  refine px_st (lv' := [.ref a0, .int a1, va_rf a2, .int (nI 1), px_u, px_u, px_u]) rfl rfl rfl rfl (by first | rfl | (cases a2 <;> rfl)) rfl rfl ?_
  exact (r_Link_defineNames_2 _ h :)
def f_Link_takeObject (F : Nat) (c : px_CT) (a0 : Nat) (a1 : Option Nat) (ph : px_H) : Option (Int32 × px_H) :=
  (xgI ph 3 14 a0).bind fun t1 =>
  (xgR ph 3 6 a0).bind fun t2 =>
  (xal ph 4 t2).bind fun t3 =>
  if t1 < t3 then
    (xgI ph 3 14 a0).bind fun t4 =>
    (xgR ph 3 6 a0).bind fun t5 =>
    (xsO ph 4 7 t5 t4 a1).bind fun ph6 =>
    (xgI ph6 3 14 a0).bind fun t7 =>
    (xpI ph6 3 14 a0 (t7 + (nI 1))).bind fun ph8 =>
    (a1).bind fun p9 =>
    (xpZ ph8 7 15 p9 (nI 1)).bind fun ph10 =>
    (xo ph10 3 a0).bind fun _ =>
    xb (f_Link_openParts F c a0 t4 (some p9) ph10) fun _ ph11 =>
    (xo ph11 3 a0).bind fun _ =>
    xb (f_Link_enterNames F c a0 t4 (some p9) ph11) fun _ ph12 =>
    (xo ph12 3 a0).bind fun _ =>
    xb (f_Link_dropGroups F c a0 t4 (some p9) ph12) fun _ ph13 =>
    (xo ph13 3 a0).bind fun _ =>
    xb (f_Link_defineNames F c a0 t4 (some p9) ph13) fun t14 ph15 =>
    xz t14 ph15
  else
    some (nI 1, ph)
theorem r_Link_takeObject {l : Launch} {g : px_G} {d F : Nat} {a0 : Nat} {a1 : Option Nat} {ph : px_H} {r : Int32} {ph' : px_H} (h : f_Link_takeObject F (px_ct g) a0 a1 ph = some (r, ph')) : PW l g (d + 4) m_Link_takeObject 0 [.ref a0, va_rf a1, px_u] [] ph (px_qI r ph') := by
  unfold f_Link_takeObject at h
  refine px_ld rfl rfl rfl rfl rfl ?_
  obtain ⟨t1, h0, h⟩ := xs_some h
  obtain ⟨fs, e1, e2⟩ := xgI_some h0
  refine px_get rfl e1 e2 rfl ?_
  refine px_ld rfl rfl rfl rfl rfl ?_
  obtain ⟨t2, h0, h⟩ := xs_some h
  obtain ⟨fs, e1, e2⟩ := xgR_some h0
  refine px_get rfl e1 e2 rfl ?_
  obtain ⟨t3, h0, h⟩ := xs_some h
  obtain ⟨x, e1, e3⟩ := xal_some h0
  subst e3
  refine px_alen rfl e1 rfl rfl ?_
  refine px_iclt rfl rfl rfl (fun hc => ?_) (fun hc => ?_)
  · replace h := (if_pos hc).symm.trans h
    refine px_ld rfl rfl rfl rfl rfl ?_
    obtain ⟨t4, h0, h⟩ := xs_some h
    obtain ⟨fs, e1, e2⟩ := xgI_some h0
    refine px_get rfl e1 e2 rfl ?_
    refine px_st (lv' := [.ref a0, va_rf a1, .int t4]) rfl rfl rfl rfl (by first | rfl | (cases a1 <;> rfl)) rfl rfl ?_
    refine px_ld rfl rfl rfl rfl rfl ?_
    obtain ⟨t5, h0, h⟩ := xs_some h
    obtain ⟨fs, e1, e2⟩ := xgR_some h0
    refine px_get rfl e1 e2 rfl ?_
    refine px_ld rfl rfl rfl rfl rfl ?_
    refine px_ld rfl rfl rfl (by first | rfl | (cases a1 <;> rfl)) rfl ?_
    obtain ⟨ph6, h0, h⟩ := xs_some h
    obtain ⟨N, f, e1, e2, e3, e4⟩ := xsO_some h0
    subst e3
    refine px_aastO (o := a1) rfl e1 rfl e4 rfl e2 rfl ?_
    refine px_ld rfl rfl rfl rfl rfl ?_
    refine px_alu rfl rfl rfl ?_
    obtain ⟨t7, h0, h⟩ := xs_some h
    obtain ⟨fs, e1, e2⟩ := xgI_some h0
    refine px_get rfl e1 e2 rfl ?_
    refine px_ic (k := 1) rfl rfl rfl ?_
    refine px_alu rfl rfl rfl ?_
    obtain ⟨ph8, h0, h⟩ := xs_some h
    obtain ⟨fs, e1, e2, e3⟩ := xpI_some h0
    subst e3
    refine px_put rfl e1 e2 trivial rfl ?_
    refine px_ld rfl rfl rfl (by first | rfl | (cases a1 <;> rfl)) rfl ?_
    refine px_ic (k := 1) rfl rfl rfl ?_
    obtain ⟨p9, h0, h⟩ := xs_some h
    revert h
    subst h0
    intro h
    obtain ⟨ph10, h0, h⟩ := xs_some h
    obtain ⟨fs, e1, e2, e3, e4⟩ := xpZ_some h0
    subst e3
    refine px_put rfl e1 e2 e4 rfl ?_
    refine px_ld rfl rfl rfl rfl rfl ?_
    refine px_ld rfl rfl rfl rfl rfl ?_
    refine px_ld rfl rfl rfl rfl rfl ?_
    obtain ⟨fs, h0, h⟩ := xs_some h
    have e1 := xo_some h0
    obtain ⟨u0, ph11, h0, h⟩ := xb_some h
    refine px_cV2 rfl rfl e1 rfl rfl rfl rfl rfl rfl rfl (r_Link_openParts h0 :) (fun _ _ q => nomatch q.2) (fun r ph' q => ?_)
    obtain ⟨rfl, q⟩ := q
    cases q
    refine px_ld rfl rfl rfl rfl rfl ?_
    refine px_ld rfl rfl rfl rfl rfl ?_
    refine px_ld rfl rfl rfl rfl rfl ?_
    obtain ⟨fs, h0, h⟩ := xs_some h
    have e1 := xo_some h0
    obtain ⟨u0, ph12, h0, h⟩ := xb_some h
    refine px_cV2 rfl rfl e1 rfl rfl rfl rfl rfl rfl rfl (r_Link_enterNames h0 :) (fun _ _ q => nomatch q.2) (fun r ph' q => ?_)
    obtain ⟨rfl, q⟩ := q
    cases q
    refine px_ld rfl rfl rfl rfl rfl ?_
    refine px_ld rfl rfl rfl rfl rfl ?_
    refine px_ld rfl rfl rfl rfl rfl ?_
    obtain ⟨fs, h0, h⟩ := xs_some h
    have e1 := xo_some h0
    obtain ⟨u0, ph13, h0, h⟩ := xb_some h
    refine px_cV2 rfl rfl e1 rfl rfl rfl rfl rfl rfl rfl (r_Link_dropGroups h0 :) (fun _ _ q => nomatch q.2) (fun r ph' q => ?_)
    obtain ⟨rfl, q⟩ := q
    cases q
    refine px_ld rfl rfl rfl rfl rfl ?_
    refine px_ld rfl rfl rfl rfl rfl ?_
    refine px_ld rfl rfl rfl rfl rfl ?_
    obtain ⟨fs, h0, h⟩ := xs_some h
    have e1 := xo_some h0
    obtain ⟨t14, ph15, h0, h⟩ := xb_some h
    refine px_cV2 rfl rfl e1 rfl rfl rfl rfl rfl rfl rfl (r_Link_defineNames h0 :) (fun _ _ q => nomatch q.2) (fun r ph' q => ?_)
    obtain ⟨rfl, q⟩ := q
    cases q
    obtain ⟨e0, e1, e2⟩ := xz_some h
    subst e1 e2
    exact px_iret rfl (Or.inr ⟨rfl, e0⟩) rfl ⟨rfl, rfl⟩
  · replace h := (if_neg hc).symm.trans h
    refine px_ic (k := 1) rfl rfl rfl ?_
    cases h
    exact px_iret rfl (Or.inr ⟨rfl, Or.inr rfl⟩) rfl ⟨rfl, rfl⟩
def f_ObjectFile_isDefining_21 (F : Nat) (c : px_CT) (s0 : Int32) (ph : px_H) : Option (Int32 × px_H) :=
  xz s0 ph
theorem r_ObjectFile_isDefining_21 {l : Launch} {g : px_G} {d F : Nat} {s0 : Int32} {ph : px_H} {r : Int32} {ph' : px_H} (h : f_ObjectFile_isDefining_21 F (px_ct g) s0 ph = some (r, ph')) : PW l g (d + 2) m_ObjectFile_isDefining 21 [px_u, px_u] [.int s0] ph (px_qI r ph') := by
  unfold f_ObjectFile_isDefining_21 at h
  obtain ⟨e0, e1, e2⟩ := xz_some h
  subst e1 e2
  exact px_iret rfl (Or.inr ⟨rfl, e0⟩) rfl ⟨rfl, rfl⟩
def f_ObjectFile_isDefining_20 (F : Nat) (c : px_CT) (ph : px_H) : Option (Int32 × px_H) :=
  f_ObjectFile_isDefining_21 F c (nI 0) ph
theorem r_ObjectFile_isDefining_20 {l : Launch} {g : px_G} {d F : Nat} {ph : px_H} {r : Int32} {ph' : px_H} (h : f_ObjectFile_isDefining_20 F (px_ct g) ph = some (r, ph')) : PW l g (d + 2) m_ObjectFile_isDefining 20 [px_u, px_u] [] ph (px_qI r ph') := by
  unfold f_ObjectFile_isDefining_20 at h
  refine px_ic (k := 0) rfl rfl rfl ?_
  exact (r_ObjectFile_isDefining_21 h :)
def f_ObjectFile_isDefining (F : Nat) (c : px_CT) (a0 : Nat) (a1 : Int32) (ph : px_H) : Option (Int32 × px_H) :=
  (xo ph 7 a0).bind fun _ =>
  xb (f_ObjectFile_bindOf F c a0 a1 ph) fun t1 ph2 =>
  if t1 = 0 then
    f_ObjectFile_isDefining_20 F c ph2
  else
    (xo ph2 7 a0).bind fun _ =>
    xb (f_ObjectFile_whereOf F c a0 a1 ph2) fun t3 ph4 =>
    if t3 = 0 then
      f_ObjectFile_isDefining_20 F c ph4
    else
      f_ObjectFile_isDefining_21 F c (nI 1) ph4
theorem r_ObjectFile_isDefining {l : Launch} {g : px_G} {d F : Nat} {a0 : Nat} {a1 : Int32} {ph : px_H} {r : Int32} {ph' : px_H} (h : f_ObjectFile_isDefining F (px_ct g) a0 a1 ph = some (r, ph')) : PW l g (d + 2) m_ObjectFile_isDefining 0 [.ref a0, .int a1] [] ph (px_qI r ph') := by
  unfold f_ObjectFile_isDefining at h
  refine px_ld rfl rfl rfl rfl rfl ?_
  refine px_ld rfl rfl rfl rfl rfl ?_
  obtain ⟨fs, h0, h⟩ := xs_some h
  have e1 := xo_some h0
  obtain ⟨t1, ph2, h0, h⟩ := xb_some h
  refine px_cV1 rfl rfl e1 rfl rfl rfl rfl rfl rfl rfl (r_ObjectFile_bindOf h0 :) (fun _ _ q => nomatch q.2) (fun r ph' q => ?_)
  obtain ⟨rfl, q⟩ := q
  cases q
  refine px_ifeq rfl rfl rfl (fun hc => ?_) (fun hc => ?_)
  · replace h := (if_pos hc).symm.trans h
    refine px_forget (n := 0) (lv' := [_, _]) rfl ?_
    refine px_forget (n := 1) (lv' := [_, _]) rfl ?_
    exact (r_ObjectFile_isDefining_20 h :)
  · replace h := (if_neg hc).symm.trans h
    refine px_ld rfl rfl rfl rfl rfl ?_
    refine px_ld rfl rfl rfl rfl rfl ?_
    obtain ⟨fs, h0, h⟩ := xs_some h
    have e1 := xo_some h0
    obtain ⟨t3, ph4, h0, h⟩ := xb_some h
    refine px_cV1 rfl rfl e1 rfl rfl rfl rfl rfl rfl rfl (r_ObjectFile_whereOf h0 :) (fun _ _ q => nomatch q.2) (fun r ph' q => ?_)
    obtain ⟨rfl, q⟩ := q
    cases q
    refine px_ifeq rfl rfl rfl (fun hc => ?_) (fun hc => ?_)
    · replace h := (if_pos hc).symm.trans h
      refine px_forget (n := 0) (lv' := [_, _]) rfl ?_
      refine px_forget (n := 1) (lv' := [_, _]) rfl ?_
      exact (r_ObjectFile_isDefining_20 h :)
    · replace h := (if_neg hc).symm.trans h
      refine px_ic (k := 1) rfl rfl rfl ?_
      refine px_goto rfl rfl rfl ?_
      refine px_forget (n := 0) (lv' := [_, _]) rfl ?_
      refine px_forget (n := 1) (lv' := [_, _]) rfl ?_
      exact (r_ObjectFile_isDefining_21 h :)
def f_Name_isMissedOrWished_19 (F : Nat) (c : px_CT) (s0 : Int32) (ph : px_H) : Option (Int32 × px_H) :=
  xz s0 ph
theorem r_Name_isMissedOrWished_19 {l : Launch} {g : px_G} {d F : Nat} {s0 : Int32} {ph : px_H} {r : Int32} {ph' : px_H} (h : f_Name_isMissedOrWished_19 F (px_ct g) s0 ph = some (r, ph')) : PW l g (d + 0) m_Name_isMissedOrWished 19 [px_u] [.int s0] ph (px_qI r ph') := by
  unfold f_Name_isMissedOrWished_19 at h
  obtain ⟨e0, e1, e2⟩ := xz_some h
  subst e1 e2
  exact px_iret rfl (Or.inr ⟨rfl, e0⟩) rfl ⟨rfl, rfl⟩
def f_Name_isMissedOrWished_14 (F : Nat) (c : px_CT) (ph : px_H) : Option (Int32 × px_H) :=
  f_Name_isMissedOrWished_19 F c (nI 1) ph
theorem r_Name_isMissedOrWished_14 {l : Launch} {g : px_G} {d F : Nat} {ph : px_H} {r : Int32} {ph' : px_H} (h : f_Name_isMissedOrWished_14 F (px_ct g) ph = some (r, ph')) : PW l g (d + 0) m_Name_isMissedOrWished 14 [px_u] [] ph (px_qI r ph') := by
  unfold f_Name_isMissedOrWished_14 at h
  refine px_ic (k := 1) rfl rfl rfl ?_
  refine px_goto rfl rfl rfl ?_
  exact (r_Name_isMissedOrWished_19 h :)
def f_Name_isMissedOrWished (F : Nat) (c : px_CT) (a0 : Nat) (ph : px_H) : Option (Int32 × px_H) :=
  (xgI ph 5 10 a0).bind fun t1 =>
  if t1 = 0 then
    (xgI ph 5 11 a0).bind fun t2 =>
    if t2 = 0 then
      f_Name_isMissedOrWished_19 F c (nI 0) ph
    else
      f_Name_isMissedOrWished_14 F c ph
  else
    f_Name_isMissedOrWished_14 F c ph
theorem r_Name_isMissedOrWished {l : Launch} {g : px_G} {d F : Nat} {a0 : Nat} {ph : px_H} {r : Int32} {ph' : px_H} (h : f_Name_isMissedOrWished F (px_ct g) a0 ph = some (r, ph')) : PW l g (d + 0) m_Name_isMissedOrWished 0 [.ref a0] [] ph (px_qI r ph') := by
  unfold f_Name_isMissedOrWished at h
  refine px_ld rfl rfl rfl rfl rfl ?_
  obtain ⟨t1, h0, h⟩ := xs_some h
  obtain ⟨fs, e1, e2⟩ := xgI_some h0
  refine px_get rfl e1 e2 rfl ?_
  refine px_ifne rfl rfl rfl (fun hc => ?_) (fun hc => ?_)
  · replace h := (if_neg hc).symm.trans h
    refine px_forget (n := 0) (lv' := [_]) rfl ?_
    exact (r_Name_isMissedOrWished_14 h :)
  · replace h := (if_pos hc).symm.trans h
    refine px_ld rfl rfl rfl rfl rfl ?_
    obtain ⟨t2, h0, h⟩ := xs_some h
    obtain ⟨fs, e1, e2⟩ := xgI_some h0
    refine px_get rfl e1 e2 rfl ?_
    refine px_ifeq rfl rfl rfl (fun hc => ?_) (fun hc => ?_)
    · replace h := (if_pos hc).symm.trans h
      refine px_ic (k := 0) rfl rfl rfl ?_
      refine px_forget (n := 0) (lv' := [_]) rfl ?_
      exact (r_Name_isMissedOrWished_19 h :)
    · replace h := (if_neg hc).symm.trans h
      refine px_forget (n := 0) (lv' := [_]) rfl ?_
      exact (r_Name_isMissedOrWished_14 h :)
def f_Link_isWanted_19 (F : Nat) (c : px_CT) (s0 : Int32) (ph : px_H) : Option (Int32 × px_H) :=
  xz s0 ph
theorem r_Link_isWanted_19 {l : Launch} {g : px_G} {d F : Nat} {s0 : Int32} {ph : px_H} {r : Int32} {ph' : px_H} (h : f_Link_isWanted_19 F (px_ct g) s0 ph = some (r, ph')) : PW l g (d + 1) m_Link_isWanted 19 [px_u] [.int s0] ph (px_qI r ph') := by
  unfold f_Link_isWanted_19 at h
  obtain ⟨e0, e1, e2⟩ := xz_some h
  subst e1 e2
  exact px_iret rfl (Or.inr ⟨rfl, e0⟩) rfl ⟨rfl, rfl⟩
def f_Link_isWanted_18 (F : Nat) (c : px_CT) (ph : px_H) : Option (Int32 × px_H) :=
  f_Link_isWanted_19 F c (nI 0) ph
theorem r_Link_isWanted_18 {l : Launch} {g : px_G} {d F : Nat} {ph : px_H} {r : Int32} {ph' : px_H} (h : f_Link_isWanted_18 F (px_ct g) ph = some (r, ph')) : PW l g (d + 1) m_Link_isWanted 18 [px_u] [] ph (px_qI r ph') := by
  unfold f_Link_isWanted_18 at h
  refine px_ic (k := 0) rfl rfl rfl ?_
  exact (r_Link_isWanted_19 h :)
def f_Link_isWanted (F : Nat) (c : px_CT) (a0 : Option Nat) (ph : px_H) : Option (Int32 × px_H) :=
  (a0).bind fun p1 =>
  (xgI ph 5 4 p1).bind fun t2 =>
  if t2 = 0 then
    (xo ph 5 p1).bind fun _ =>
    xb (f_Name_isMissedOrWished F c p1 ph) fun t3 ph4 =>
    if t3 = 0 then
      f_Link_isWanted_18 F c ph4
    else
      f_Link_isWanted_19 F c (nI 1) ph4
  else
    f_Link_isWanted_18 F c ph
theorem r_Link_isWanted {l : Launch} {g : px_G} {d F : Nat} {a0 : Option Nat} {ph : px_H} {r : Int32} {ph' : px_H} (h : f_Link_isWanted F (px_ct g) a0 ph = some (r, ph')) : PW l g (d + 1) m_Link_isWanted 0 [va_rf a0] [] ph (px_qI r ph') := by
  unfold f_Link_isWanted at h
  refine px_ld rfl rfl rfl (by first | rfl | (cases a0 <;> rfl)) rfl ?_
  obtain ⟨p1, h0, h⟩ := xs_some h
  revert h
  subst h0
  intro h
  obtain ⟨t2, h0, h⟩ := xs_some h
  obtain ⟨fs, e1, e2⟩ := xgI_some h0
  refine px_get rfl e1 e2 rfl ?_
  refine px_ifne rfl rfl rfl (fun hc => ?_) (fun hc => ?_)
  · replace h := (if_neg hc).symm.trans h
    refine px_forget (n := 0) (lv' := [_]) rfl ?_
    exact (r_Link_isWanted_18 h :)
  · replace h := (if_pos hc).symm.trans h
    refine px_ld rfl rfl rfl rfl rfl ?_
    obtain ⟨fs, h0, h⟩ := xs_some h
    have e1 := xo_some h0
    obtain ⟨t3, ph4, h0, h⟩ := xb_some h
    refine px_cV0 rfl rfl e1 rfl rfl rfl rfl rfl rfl rfl (r_Name_isMissedOrWished h0 :) (fun _ _ q => nomatch q.2) (fun r ph' q => ?_)
    obtain ⟨rfl, q⟩ := q
    cases q
    refine px_ifeq rfl rfl rfl (fun hc => ?_) (fun hc => ?_)
    · replace h := (if_pos hc).symm.trans h
      refine px_forget (n := 0) (lv' := [_]) rfl ?_
      exact (r_Link_isWanted_18 h :)
    · replace h := (if_neg hc).symm.trans h
      refine px_ic (k := 1) rfl rfl rfl ?_
      refine px_goto rfl rfl rfl ?_
      refine px_forget (n := 0) (lv' := [_]) rfl ?_
      exact (r_Link_isWanted_19 h :)
def f_Link_firstWanted_65 (F : Nat) (c : px_CT) (ph : px_H) : Option (Int32 × px_H) :=
  some (nI 0, ph)
theorem r_Link_firstWanted_65 {l : Launch} {g : px_G} {d F : Nat} {ph : px_H} {r : Int32} {ph' : px_H} (h : f_Link_firstWanted_65 F (px_ct g) ph = some (r, ph')) : PW l g (d + 3) m_Link_firstWanted 65 [px_u, px_u, px_u, px_u] [] ph (px_qI r ph') := by
  unfold f_Link_firstWanted_65 at h
  refine px_ic (k := 0) rfl rfl rfl ?_
  cases h
  exact px_iret rfl (Or.inl rfl) rfl ⟨rfl, rfl⟩
def f_Link_firstWanted_59 (F : Nat) (c : px_CT) (k2 : Nat → Option Nat → Int32 → px_H → Option (Int32 × px_H)) (a0 : Nat) (a1 : Option Nat) (a2 : Int32) (ph : px_H) : Option (Int32 × px_H) :=
  k2 a0 a1 (a2 + nI 1) ph
theorem r_Link_firstWanted_59 {l : Launch} {g : px_G} {d F : Nat} {k2 : Nat → Option Nat → Int32 → px_H → Option (Int32 × px_H)} (hk2 : ∀ {a0 : Nat} {a1 : Option Nat} {a2 : Int32} {ph : px_H} {r : Int32} {ph' : px_H}, k2 a0 a1 a2 ph = some (r, ph') → PW l g (d + 3) m_Link_firstWanted 2 [.ref a0, va_rf a1, .int a2, px_u] [] ph (px_qI r ph')) {a0 : Nat} {a1 : Option Nat} {a2 : Int32} {ph : px_H} {r : Int32} {ph' : px_H} (h : f_Link_firstWanted_59 F (px_ct g) k2 a0 a1 a2 ph = some (r, ph')) : PW l g (d + 3) m_Link_firstWanted 59 [.ref a0, va_rf a1, .int a2, px_u] [] ph (px_qI r ph') := by
  unfold f_Link_firstWanted_59 at h
  refine px_iinc (lv' := [_, _, _, _]) rfl rfl rfl (by first | rfl | (cases a1 <;> rfl)) rfl rfl ?_
  refine px_goto rfl rfl rfl ?_
  exact (hk2 h :)
def f_Link_firstWanted_57 (F : Nat) (c : px_CT) (a2 : Int32) (ph : px_H) : Option (Int32 × px_H) :=
  some (a2, ph)
theorem r_Link_firstWanted_57 {l : Launch} {g : px_G} {d F : Nat} {a2 : Int32} {ph : px_H} {r : Int32} {ph' : px_H} (h : f_Link_firstWanted_57 F (px_ct g) a2 ph = some (r, ph')) : PW l g (d + 3) m_Link_firstWanted 57 [px_u, px_u, .int a2, px_u] [] ph (px_qI r ph') := by
  unfold f_Link_firstWanted_57 at h
  refine px_ld rfl rfl rfl rfl rfl ?_
  cases h
  exact px_iret rfl (Or.inl rfl) rfl ⟨rfl, rfl⟩
def f_Link_firstWanted_2 (F : Nat) (c : px_CT) : Nat → Nat → Option Nat → Int32 → px_H → Option (Int32 × px_H)
  | 0, _, _, _, _ => none
  | n + 1, a0, a1, a2, ph =>
    (a1).bind fun p1 =>
    (xgI ph 7 11 p1).bind fun t2 =>
    if t2 ≤ a2 then
      f_Link_firstWanted_65 F c ph
    else
      (xo ph 7 p1).bind fun _ =>
      xb (f_ObjectFile_isDefining F c p1 a2 ph) fun t3 ph4 =>
      if t3 = 0 then
        f_Link_firstWanted_59 F c (f_Link_firstWanted_2 F c n) a0 (some p1) a2 ph4
      else
        (xgR ph4 3 11 a0).bind fun t5 =>
        (xgR ph4 7 0 p1).bind fun t6 =>
        (xo ph4 7 p1).bind fun _ =>
        xb (f_ObjectFile_nameStart F c p1 a2 ph4) fun t7 ph8 =>
        (xo ph8 5 t5).bind fun _ =>
        xb (f_Name_read F c t5 t6 t7 ph8) fun _ ph9 =>
        (xgR ph9 3 3 a0).bind fun t10 =>
        (xgR ph9 3 11 a0).bind fun t11 =>
        (xo ph9 6 t10).bind fun _ =>
        xb (f_Names_find F c t10 (some t11) ph9) fun t12 ph13 =>
        (match t12 with
          | none => f_Link_firstWanted_59 F c (f_Link_firstWanted_2 F c n) a0 (some p1) a2 ph13
          | some p14 => xb (f_Link_isWanted F c (some p14) ph13) fun t15 ph16 =>
          if t15 = 0 then
            f_Link_firstWanted_59 F c (f_Link_firstWanted_2 F c n) a0 (some p1) a2 ph16
          else
            f_Link_firstWanted_57 F c a2 ph16)
theorem r_Link_firstWanted_2 {l : Launch} {g : px_G} {d F : Nat} : ∀ (n : Nat) {a0 : Nat} {a1 : Option Nat} {a2 : Int32} {ph : px_H} {r : Int32} {ph' : px_H}, f_Link_firstWanted_2 F (px_ct g) n a0 a1 a2 ph = some (r, ph') → PW l g (d + 3) m_Link_firstWanted 2 [.ref a0, va_rf a1, .int a2, px_u] [] ph (px_qI r ph') := by
  intro n
  induction n with
  | zero => intro _ _ _ _ _ _ h; cases h
  | succ n ih =>
    intro a0 a1 a2 ph r ph' h
    unfold f_Link_firstWanted_2 at h
    refine px_ld rfl rfl rfl rfl rfl ?_
    refine px_ld rfl rfl rfl (by first | rfl | (cases a1 <;> rfl)) rfl ?_
    obtain ⟨p1, h0, h⟩ := xs_some h
    revert h
    subst h0
    intro h
    obtain ⟨t2, h0, h⟩ := xs_some h
    obtain ⟨fs, e1, e2⟩ := xgI_some h0
    refine px_get rfl e1 e2 rfl ?_
    refine px_icge rfl rfl rfl (fun hc => ?_) (fun hc => ?_)
    · replace h := (if_pos hc).symm.trans h
      refine px_forget (n := 0) (lv' := [_, _, _, _]) rfl ?_
      refine px_forget (n := 1) (lv' := [_, _, _, _]) rfl ?_
      refine px_forget (n := 2) (lv' := [_, _, _, _]) rfl ?_
      exact (r_Link_firstWanted_65 h :)
    · replace h := (if_neg hc).symm.trans h
      refine px_ld rfl rfl rfl rfl rfl ?_
      refine px_ld rfl rfl rfl rfl rfl ?_
      obtain ⟨fs, h0, h⟩ := xs_some h
      have e1 := xo_some h0
      obtain ⟨t3, ph4, h0, h⟩ := xb_some h
      refine px_cV1 rfl rfl e1 rfl rfl rfl rfl rfl rfl rfl (r_ObjectFile_isDefining h0 :) (fun _ _ q => nomatch q.2) (fun r ph' q => ?_)
      obtain ⟨rfl, q⟩ := q
      cases q
      refine px_ifeq rfl rfl rfl (fun hc => ?_) (fun hc => ?_)
      · replace h := (if_pos hc).symm.trans h
        exact (r_Link_firstWanted_59 @ih h :)
      · replace h := (if_neg hc).symm.trans h
        refine px_ld rfl rfl rfl rfl rfl ?_
        obtain ⟨t5, h0, h⟩ := xs_some h
        obtain ⟨fs, e1, e2⟩ := xgR_some h0
        refine px_get rfl e1 e2 rfl ?_
        refine px_ld rfl rfl rfl rfl rfl ?_
        obtain ⟨t6, h0, h⟩ := xs_some h
        obtain ⟨fs, e1, e2⟩ := xgR_some h0
        refine px_get rfl e1 e2 rfl ?_
        refine px_ld rfl rfl rfl rfl rfl ?_
        refine px_ld rfl rfl rfl rfl rfl ?_
        obtain ⟨fs, h0, h⟩ := xs_some h
        have e1 := xo_some h0
        obtain ⟨t7, ph8, h0, h⟩ := xb_some h
        refine px_cV1 rfl rfl e1 rfl rfl rfl rfl rfl rfl rfl (r_ObjectFile_nameStart h0 :) (fun _ _ q => nomatch q.2) (fun r ph' q => ?_)
        obtain ⟨rfl, q⟩ := q
        cases q
        obtain ⟨fs, h0, h⟩ := xs_some h
        have e1 := xo_some h0
        obtain ⟨u0, ph9, h0, h⟩ := xb_some h
        refine px_cV2 rfl rfl e1 rfl rfl rfl rfl rfl rfl rfl (r_Name_read h0 :) (fun _ _ q => nomatch q.2) (fun r ph' q => ?_)
        obtain ⟨rfl, q⟩ := q
        cases q
        refine px_ld rfl rfl rfl rfl rfl ?_
        obtain ⟨t10, h0, h⟩ := xs_some h
        obtain ⟨fs, e1, e2⟩ := xgR_some h0
        refine px_get rfl e1 e2 rfl ?_
        refine px_ld rfl rfl rfl rfl rfl ?_
        obtain ⟨t11, h0, h⟩ := xs_some h
        obtain ⟨fs, e1, e2⟩ := xgR_some h0
        refine px_get rfl e1 e2 rfl ?_
        obtain ⟨fs, h0, h⟩ := xs_some h
        have e1 := xo_some h0
        obtain ⟨t12, ph13, h0, h⟩ := xb_some h
        refine px_cV1 rfl rfl e1 rfl rfl rfl rfl rfl rfl rfl (r_Names_find h0 :) (fun _ _ q => nomatch q.2) (fun r ph' q => ?_)
        obtain ⟨rfl, q⟩ := q
        cases q
        refine px_st (lv' := [.ref a0, .ref p1, .int a2, va_rf t12]) rfl rfl (by first | rfl | (cases t12 <;> rfl)) (by first | rfl | (cases t12 <;> rfl)) rfl (by first | rfl | (cases t12 <;> rfl)) rfl ?_
        refine px_ld rfl rfl rfl (by first | rfl | (cases t12 <;> rfl)) rfl ?_
        cases t12 with
        | none =>
          refine px_ifnullN rfl rfl rfl ?_
          refine px_forget (n := 3) (lv' := [_, _, _, _]) rfl ?_
          exact (r_Link_firstWanted_59 @ih h :)
        | some p14 =>
          refine px_ifnullR rfl rfl ?_
          refine px_ld rfl rfl rfl rfl rfl ?_
          obtain ⟨t15, ph16, h0, h⟩ := xb_some h
          refine px_cS1 rfl rfl rfl rfl rfl rfl rfl (r_Link_isWanted h0 :) (fun _ _ q => nomatch q.2) (fun r ph' q => ?_)
          obtain ⟨rfl, q⟩ := q
          cases q
          refine px_ifeq rfl rfl rfl (fun hc => ?_) (fun hc => ?_)
          · replace h := (if_pos hc).symm.trans h
            refine px_forget (n := 3) (lv' := [_, _, _, _]) rfl ?_
            exact (r_Link_firstWanted_59 @ih h :)
          · replace h := (if_neg hc).symm.trans h
            refine px_forget (n := 0) (lv' := [_, _, _, _]) rfl ?_
            refine px_forget (n := 1) (lv' := [_, _, _, _]) rfl ?_
            refine px_forget (n := 3) (lv' := [_, _, _, _]) rfl ?_
            exact (r_Link_firstWanted_57 h :)
def f_Link_firstWanted (F : Nat) (c : px_CT) (a0 : Nat) (a1 : Option Nat) (ph : px_H) : Option (Int32 × px_H) :=
  f_Link_firstWanted_2 F c F a0 a1 (nI 1) ph
theorem r_Link_firstWanted {l : Launch} {g : px_G} {d F : Nat} {a0 : Nat} {a1 : Option Nat} {ph : px_H} {r : Int32} {ph' : px_H} (h : f_Link_firstWanted F (px_ct g) a0 a1 ph = some (r, ph')) : PW l g (d + 3) m_Link_firstWanted 0 [.ref a0, va_rf a1, px_u, px_u] [] ph (px_qI r ph') := by
  unfold f_Link_firstWanted at h
  refine px_ic (k := 1) rfl rfl rfl ?_
  refine px_st (lv' := [.ref a0, va_rf a1, .int (nI 1), px_u]) rfl rfl rfl rfl (by first | rfl | (cases a1 <;> rfl)) rfl rfl ?_
  exact (r_Link_firstWanted_2 _ h :)
def f_Link_takeMembers_106 (F : Nat) (c : px_CT) (ph : px_H) : Option (Int32 × px_H) :=
  some (nI 1, ph)
theorem r_Link_takeMembers_106 {l : Launch} {g : px_G} {d F : Nat} {ph : px_H} {r : Int32} {ph' : px_H} (h : f_Link_takeMembers_106 F (px_ct g) ph = some (r, ph')) : PW l g (d + 5) m_Link_takeMembers 106 [px_u, px_u, px_u, px_u, px_u, px_u, px_u] [] ph (px_qI r ph') := by
  unfold f_Link_takeMembers_106 at h
  refine px_ic (k := 1) rfl rfl rfl ?_
  cases h
  exact px_iret rfl (Or.inr ⟨rfl, Or.inr rfl⟩) rfl ⟨rfl, rfl⟩
def f_Link_takeMembers_100 (F : Nat) (c : px_CT) (k4 : Nat → Int32 → Int32 → Int32 → px_H → Option (Int32 × px_H)) (a0 : Nat) (a1 : Int32) (a2 : Int32) (a3 : Int32) (ph : px_H) : Option (Int32 × px_H) :=
  k4 a0 a1 a2 (a3 + nI 1) ph
theorem r_Link_takeMembers_100 {l : Launch} {g : px_G} {d F : Nat} {k4 : Nat → Int32 → Int32 → Int32 → px_H → Option (Int32 × px_H)} (hk4 : ∀ {a0 : Nat} {a1 : Int32} {a2 : Int32} {a3 : Int32} {ph : px_H} {r : Int32} {ph' : px_H}, k4 a0 a1 a2 a3 ph = some (r, ph') → PW l g (d + 5) m_Link_takeMembers 4 [.ref a0, .int a1, .int a2, .int a3, px_u, px_u, px_u] [] ph (px_qI r ph')) {a0 : Nat} {a1 : Int32} {a2 : Int32} {a3 : Int32} {ph : px_H} {r : Int32} {ph' : px_H} (h : f_Link_takeMembers_100 F (px_ct g) k4 a0 a1 a2 a3 ph = some (r, ph')) : PW l g (d + 5) m_Link_takeMembers 100 [.ref a0, .int a1, .int a2, .int a3, px_u, px_u, px_u] [] ph (px_qI r ph') := by
  unfold f_Link_takeMembers_100 at h
  refine px_iinc (lv' := [_, _, _, _, _, _, _]) rfl rfl rfl rfl rfl rfl ?_
  refine px_goto rfl rfl rfl ?_
  exact (hk4 h :)
def f_Link_takeMembers_94 (F : Nat) (c : px_CT) (k4 : Nat → Int32 → Int32 → Int32 → px_H → Option (Int32 × px_H)) (k19 : Nat → Int32 → Int32 → Int32 → Int32 → px_H → Option (Int32 × px_H)) (a0 : Nat) (a1 : Int32) (a2 : Int32) (a3 : Int32) (a4 : Int32) (ph : px_H) : Option (Int32 × px_H) :=
  k19 a0 a1 a2 a3 (a4 + nI 1) ph
theorem r_Link_takeMembers_94 {l : Launch} {g : px_G} {d F : Nat} {k4 : Nat → Int32 → Int32 → Int32 → px_H → Option (Int32 × px_H)} (hk4 : ∀ {a0 : Nat} {a1 : Int32} {a2 : Int32} {a3 : Int32} {ph : px_H} {r : Int32} {ph' : px_H}, k4 a0 a1 a2 a3 ph = some (r, ph') → PW l g (d + 5) m_Link_takeMembers 4 [.ref a0, .int a1, .int a2, .int a3, px_u, px_u, px_u] [] ph (px_qI r ph')) {k19 : Nat → Int32 → Int32 → Int32 → Int32 → px_H → Option (Int32 × px_H)} (hk19 : ∀ {a0 : Nat} {a1 : Int32} {a2 : Int32} {a3 : Int32} {a4 : Int32} {ph : px_H} {r : Int32} {ph' : px_H}, k19 a0 a1 a2 a3 a4 ph = some (r, ph') → PW l g (d + 5) m_Link_takeMembers 19 [.ref a0, .int a1, .int a2, .int a3, .int a4, px_u, px_u] [] ph (px_qI r ph')) {a0 : Nat} {a1 : Int32} {a2 : Int32} {a3 : Int32} {a4 : Int32} {ph : px_H} {r : Int32} {ph' : px_H} (h : f_Link_takeMembers_94 F (px_ct g) k4 k19 a0 a1 a2 a3 a4 ph = some (r, ph')) : PW l g (d + 5) m_Link_takeMembers 94 [.ref a0, .int a1, .int a2, .int a3, .int a4, px_u, px_u] [] ph (px_qI r ph') := by
  unfold f_Link_takeMembers_94 at h
  refine px_iinc (lv' := [_, _, _, _, _, _, _]) rfl rfl rfl rfl rfl rfl ?_
  refine px_goto rfl rfl rfl ?_
  exact (hk19 h :)
def f_Link_takeMembers_92 (F : Nat) (c : px_CT) (ph : px_H) : Option (Int32 × px_H) :=
  some (nI 0, ph)
theorem r_Link_takeMembers_92 {l : Launch} {g : px_G} {d F : Nat} {ph : px_H} {r : Int32} {ph' : px_H} (h : f_Link_takeMembers_92 F (px_ct g) ph = some (r, ph')) : PW l g (d + 5) m_Link_takeMembers 92 [px_u, px_u, px_u, px_u, px_u, px_u, px_u] [] ph (px_qI r ph') := by
  unfold f_Link_takeMembers_92 at h
  refine px_ic (k := 0) rfl rfl rfl ?_
  cases h
  exact px_iret rfl (Or.inr ⟨rfl, Or.inl rfl⟩) rfl ⟨rfl, rfl⟩
def f_Link_takeMembers_67 (F : Nat) (c : px_CT) (k4 : Nat → Int32 → Int32 → Int32 → px_H → Option (Int32 × px_H)) (k19 : Nat → Int32 → Int32 → Int32 → Int32 → px_H → Option (Int32 × px_H)) (a0 : Nat) (a1 : Int32) (a2 : Int32) (a3 : Int32) (a4 : Int32) (a5 : Option Nat) (s0 : Int32) (ph : px_H) : Option (Int32 × px_H) :=
  if s0 ≤ 0 then
    f_Link_takeMembers_94 F c k4 k19 a0 a1 a2 a3 a4 ph
  else
    (a5).bind fun p1 =>
    (xpI ph 7 16 p1 s0).bind fun ph2 =>
    (xo ph2 3 a0).bind fun _ =>
    xb (f_Link_takeObject F c a0 (some p1) ph2) fun t3 ph4 =>
    if t3 = 0 then
      f_Link_takeMembers_92 F c ph4
    else
      f_Link_takeMembers_94 F c k4 k19 a0 a1 (nI 1) a3 a4 ph4
theorem r_Link_takeMembers_67 {l : Launch} {g : px_G} {d F : Nat} {k4 : Nat → Int32 → Int32 → Int32 → px_H → Option (Int32 × px_H)} (hk4 : ∀ {a0 : Nat} {a1 : Int32} {a2 : Int32} {a3 : Int32} {ph : px_H} {r : Int32} {ph' : px_H}, k4 a0 a1 a2 a3 ph = some (r, ph') → PW l g (d + 5) m_Link_takeMembers 4 [.ref a0, .int a1, .int a2, .int a3, px_u, px_u, px_u] [] ph (px_qI r ph')) {k19 : Nat → Int32 → Int32 → Int32 → Int32 → px_H → Option (Int32 × px_H)} (hk19 : ∀ {a0 : Nat} {a1 : Int32} {a2 : Int32} {a3 : Int32} {a4 : Int32} {ph : px_H} {r : Int32} {ph' : px_H}, k19 a0 a1 a2 a3 a4 ph = some (r, ph') → PW l g (d + 5) m_Link_takeMembers 19 [.ref a0, .int a1, .int a2, .int a3, .int a4, px_u, px_u] [] ph (px_qI r ph')) {a0 : Nat} {a1 : Int32} {a2 : Int32} {a3 : Int32} {a4 : Int32} {a5 : Option Nat} {s0 : Int32} {ph : px_H} {r : Int32} {ph' : px_H} (h : f_Link_takeMembers_67 F (px_ct g) k4 k19 a0 a1 a2 a3 a4 a5 s0 ph = some (r, ph')) : PW l g (d + 5) m_Link_takeMembers 67 [.ref a0, .int a1, .int a2, .int a3, .int a4, va_rf a5, px_u] [.int s0] ph (px_qI r ph') := by
  unfold f_Link_takeMembers_67 at h
  refine px_st (lv' := [.ref a0, .int a1, .int a2, .int a3, .int a4, va_rf a5, .int s0]) rfl rfl rfl rfl (by first | rfl | (cases a5 <;> rfl)) rfl rfl ?_
  refine px_ld rfl rfl rfl rfl rfl ?_
  refine px_ifle rfl rfl rfl (fun hc => ?_) (fun hc => ?_)
  · replace h := (if_pos hc).symm.trans h
    refine px_forget (n := 5) (lv' := [_, _, _, _, _, _, _]) rfl ?_
    refine px_forget (n := 6) (lv' := [_, _, _, _, _, _, _]) rfl ?_
    exact (r_Link_takeMembers_94 @hk4 @hk19 h :)
  · replace h := (if_neg hc).symm.trans h
    refine px_ld rfl rfl rfl (by first | rfl | (cases a5 <;> rfl)) rfl ?_
    refine px_ld rfl rfl rfl rfl rfl ?_
    obtain ⟨p1, h0, h⟩ := xs_some h
    revert h
    subst h0
    intro h
    obtain ⟨ph2, h0, h⟩ := xs_some h
    obtain ⟨fs, e1, e2, e3⟩ := xpI_some h0
    subst e3
    refine px_put rfl e1 e2 trivial rfl ?_
    refine px_ic (k := 1) rfl rfl rfl ?_
    refine px_st (lv' := [_, _, _, _, _, _, _]) rfl rfl rfl rfl rfl rfl rfl ?_
    refine px_ld rfl rfl rfl rfl rfl ?_
    refine px_ld rfl rfl rfl rfl rfl ?_
    obtain ⟨fs, h0, h⟩ := xs_some h
    have e1 := xo_some h0
    obtain ⟨t3, ph4, h0, h⟩ := xb_some h
    refine px_cV1 rfl rfl e1 rfl rfl rfl rfl rfl rfl rfl (r_Link_takeObject h0 :) (fun _ _ q => nomatch q.2) (fun r ph' q => ?_)
    obtain ⟨rfl, q⟩ := q
    cases q
    refine px_ifne rfl rfl rfl (fun hc => ?_) (fun hc => ?_)
    · replace h := (if_neg hc).symm.trans h
      refine px_forget (n := 5) (lv' := [_, _, _, _, _, _, _]) rfl ?_
      refine px_forget (n := 6) (lv' := [_, _, _, _, _, _, _]) rfl ?_
      exact (r_Link_takeMembers_94 @hk4 @hk19 h :)
    · replace h := (if_pos hc).symm.trans h
      refine px_forget (n := 0) (lv' := [_, _, _, _, _, _, _]) rfl ?_
      refine px_forget (n := 1) (lv' := [_, _, _, _, _, _, _]) rfl ?_
      refine px_forget (n := 2) (lv' := [_, _, _, _, _, _, _]) rfl ?_
      refine px_forget (n := 3) (lv' := [_, _, _, _, _, _, _]) rfl ?_
      refine px_forget (n := 4) (lv' := [_, _, _, _, _, _, _]) rfl ?_
      refine px_forget (n := 5) (lv' := [_, _, _, _, _, _, _]) rfl ?_
      refine px_forget (n := 6) (lv' := [_, _, _, _, _, _, _]) rfl ?_
      exact (r_Link_takeMembers_92 h :)
def f_Link_takeMembers_66 (F : Nat) (c : px_CT) (k4 : Nat → Int32 → Int32 → Int32 → px_H → Option (Int32 × px_H)) (k19 : Nat → Int32 → Int32 → Int32 → Int32 → px_H → Option (Int32 × px_H)) (a0 : Nat) (a1 : Int32) (a2 : Int32) (a3 : Int32) (a4 : Int32) (a5 : Option Nat) (ph : px_H) : Option (Int32 × px_H) :=
  f_Link_takeMembers_67 F c k4 k19 a0 a1 a2 a3 a4 a5 (nI 0) ph
theorem r_Link_takeMembers_66 {l : Launch} {g : px_G} {d F : Nat} {k4 : Nat → Int32 → Int32 → Int32 → px_H → Option (Int32 × px_H)} (hk4 : ∀ {a0 : Nat} {a1 : Int32} {a2 : Int32} {a3 : Int32} {ph : px_H} {r : Int32} {ph' : px_H}, k4 a0 a1 a2 a3 ph = some (r, ph') → PW l g (d + 5) m_Link_takeMembers 4 [.ref a0, .int a1, .int a2, .int a3, px_u, px_u, px_u] [] ph (px_qI r ph')) {k19 : Nat → Int32 → Int32 → Int32 → Int32 → px_H → Option (Int32 × px_H)} (hk19 : ∀ {a0 : Nat} {a1 : Int32} {a2 : Int32} {a3 : Int32} {a4 : Int32} {ph : px_H} {r : Int32} {ph' : px_H}, k19 a0 a1 a2 a3 a4 ph = some (r, ph') → PW l g (d + 5) m_Link_takeMembers 19 [.ref a0, .int a1, .int a2, .int a3, .int a4, px_u, px_u] [] ph (px_qI r ph')) {a0 : Nat} {a1 : Int32} {a2 : Int32} {a3 : Int32} {a4 : Int32} {a5 : Option Nat} {ph : px_H} {r : Int32} {ph' : px_H} (h : f_Link_takeMembers_66 F (px_ct g) k4 k19 a0 a1 a2 a3 a4 a5 ph = some (r, ph')) : PW l g (d + 5) m_Link_takeMembers 66 [.ref a0, .int a1, .int a2, .int a3, .int a4, va_rf a5, px_u] [] ph (px_qI r ph') := by
  unfold f_Link_takeMembers_66 at h
  refine px_ic (k := 0) rfl rfl rfl ?_
  exact (r_Link_takeMembers_67 @hk4 @hk19 h :)
def f_Link_takeMembers_19 (F : Nat) (c : px_CT) (k4 : Nat → Int32 → Int32 → Int32 → px_H → Option (Int32 × px_H)) : Nat → Nat → Int32 → Int32 → Int32 → Int32 → px_H → Option (Int32 × px_H)
  | 0, _, _, _, _, _, _ => none
  | n + 1, a0, a1, a2, a3, a4, ph =>
    if (nI 8) ≤ a4 then
      f_Link_takeMembers_100 F c k4 a0 a1 a2 a3 ph
    else
      (xgR ph 3 0 a0).bind fun t1 =>
      (xaN ph 4 t1 ((a1 * (nI 8)) + a4)).bind fun t2 =>
      (t2).bind fun p3 =>
      (xgI ph 7 4 p3).bind fun t4 =>
      if t4 = (nI 2) then
        (xgI ph 7 15 p3).bind fun t5 =>
        if t5 = 0 then
          (xo ph 3 a0).bind fun _ =>
          xb (f_Link_firstWanted F c a0 (some p3) ph) fun t6 ph7 =>
          f_Link_takeMembers_67 F c k4 (f_Link_takeMembers_19 F c k4 n) a0 a1 a2 a3 a4 (some p3) t6 ph7
        else
          f_Link_takeMembers_66 F c k4 (f_Link_takeMembers_19 F c k4 n) a0 a1 a2 a3 a4 (some p3) ph
      else
        f_Link_takeMembers_66 F c k4 (f_Link_takeMembers_19 F c k4 n) a0 a1 a2 a3 a4 (some p3) ph
theorem r_Link_takeMembers_19 {l : Launch} {g : px_G} {d F : Nat} {k4 : Nat → Int32 → Int32 → Int32 → px_H → Option (Int32 × px_H)} (hk4 : ∀ {a0 : Nat} {a1 : Int32} {a2 : Int32} {a3 : Int32} {ph : px_H} {r : Int32} {ph' : px_H}, k4 a0 a1 a2 a3 ph = some (r, ph') → PW l g (d + 5) m_Link_takeMembers 4 [.ref a0, .int a1, .int a2, .int a3, px_u, px_u, px_u] [] ph (px_qI r ph')) : ∀ (n : Nat) {a0 : Nat} {a1 : Int32} {a2 : Int32} {a3 : Int32} {a4 : Int32} {ph : px_H} {r : Int32} {ph' : px_H}, f_Link_takeMembers_19 F (px_ct g) k4 n a0 a1 a2 a3 a4 ph = some (r, ph') → PW l g (d + 5) m_Link_takeMembers 19 [.ref a0, .int a1, .int a2, .int a3, .int a4, px_u, px_u] [] ph (px_qI r ph') := by
  intro n
  induction n with
  | zero => intro _ _ _ _ _ _ _ _ h; cases h
  | succ n ih =>
    intro a0 a1 a2 a3 a4 ph r ph' h
    unfold f_Link_takeMembers_19 at h
    refine px_ld rfl rfl rfl rfl rfl ?_
    refine px_ic (k := 8) rfl rfl rfl ?_
    refine px_icge rfl rfl rfl (fun hc => ?_) (fun hc => ?_)
    · replace h := (if_pos hc).symm.trans h
      refine px_forget (n := 4) (lv' := [_, _, _, _, _, _, _]) rfl ?_
      exact (r_Link_takeMembers_100 @hk4 h :)
    · replace h := (if_neg hc).symm.trans h
      refine px_ld rfl rfl rfl rfl rfl ?_
      obtain ⟨t1, h0, h⟩ := xs_some h
      obtain ⟨fs, e1, e2⟩ := xgR_some h0
      refine px_get rfl e1 e2 rfl ?_
      refine px_ld rfl rfl rfl rfl rfl ?_
      refine px_ic (k := 8) rfl rfl rfl ?_
      refine px_alu rfl rfl rfl ?_
      refine px_ld rfl rfl rfl rfl rfl ?_
      refine px_alu rfl rfl rfl ?_
      obtain ⟨t2, h0, h⟩ := xs_some h
      obtain ⟨N, f, e1, e2, e3⟩ := xaN_some h0
      refine px_aaldO rfl e1 rfl e2 e3 rfl ?_
      refine px_st (lv' := [.ref a0, .int a1, .int a2, .int a3, .int a4, va_rf t2, px_u]) rfl rfl (by first | rfl | (cases t2 <;> rfl)) (by first | rfl | (cases t2 <;> rfl)) rfl (by first | rfl | (cases t2 <;> rfl)) rfl ?_
      refine px_ld rfl rfl rfl (by first | rfl | (cases t2 <;> rfl)) rfl ?_
      obtain ⟨p3, h0, h⟩ := xs_some h
      revert h
      subst h0
      intro h
      obtain ⟨t4, h0, h⟩ := xs_some h
      obtain ⟨fs, e1, e2⟩ := xgI_some h0
      refine px_get rfl e1 e2 rfl ?_
      refine px_ic (k := 2) rfl rfl rfl ?_
      refine px_icne rfl rfl rfl (fun hc => ?_) (fun hc => ?_)
      · replace h := (if_neg hc).symm.trans h
        exact (r_Link_takeMembers_66 @hk4 @ih h :)
      · replace h := (if_pos hc).symm.trans h
        refine px_ld rfl rfl rfl rfl rfl ?_
        obtain ⟨t5, h0, h⟩ := xs_some h
        obtain ⟨fs, e1, e2⟩ := xgI_some h0
        refine px_get rfl e1 e2 rfl ?_
        refine px_ifne rfl rfl rfl (fun hc => ?_) (fun hc => ?_)
        · replace h := (if_neg hc).symm.trans h
          exact (r_Link_takeMembers_66 @hk4 @ih h :)
        · replace h := (if_pos hc).symm.trans h
          refine px_ld rfl rfl rfl rfl rfl ?_
          refine px_ld rfl rfl rfl rfl rfl ?_
          obtain ⟨fs, h0, h⟩ := xs_some h
          have e1 := xo_some h0
          obtain ⟨t6, ph7, h0, h⟩ := xb_some h
          refine px_cV1 rfl rfl e1 rfl rfl rfl rfl rfl rfl rfl (r_Link_firstWanted h0 :) (fun _ _ q => nomatch q.2) (fun r ph' q => ?_)
          obtain ⟨rfl, q⟩ := q
          cases q
          refine px_goto rfl rfl rfl ?_
          exact (r_Link_takeMembers_67 @hk4 @ih h :)
def f_Link_takeMembers_4 (F : Nat) (c : px_CT) : Nat → Nat → Int32 → Int32 → Int32 → px_H → Option (Int32 × px_H)
  | 0, _, _, _, _, _ => none
  | n + 1, a0, a1, a2, a3, ph =>
    if a2 = 0 then
      f_Link_takeMembers_106 F c ph
    else
      if (nI 8) < a3 then
        f_Link_takeMembers_106 F c ph
      else
        f_Link_takeMembers_19 F c (f_Link_takeMembers_4 F c n) F a0 a1 (nI 0) a3 (nI 0) ph
theorem r_Link_takeMembers_4 {l : Launch} {g : px_G} {d F : Nat} : ∀ (n : Nat) {a0 : Nat} {a1 : Int32} {a2 : Int32} {a3 : Int32} {ph : px_H} {r : Int32} {ph' : px_H}, f_Link_takeMembers_4 F (px_ct g) n a0 a1 a2 a3 ph = some (r, ph') → PW l g (d + 5) m_Link_takeMembers 4 [.ref a0, .int a1, .int a2, .int a3, px_u, px_u, px_u] [] ph (px_qI r ph') := by
  intro n
  induction n with
  | zero => intro _ _ _ _ _ _ _ h; cases h
  | succ n ih =>
    intro a0 a1 a2 a3 ph r ph' h
    unfold f_Link_takeMembers_4 at h
    refine px_ld rfl rfl rfl rfl rfl ?_
    refine px_ifeq rfl rfl rfl (fun hc => ?_) (fun hc => ?_)
    · replace h := (if_pos hc).symm.trans h
      refine px_forget (n := 0) (lv' := [_, _, _, _, _, _, _]) rfl ?_
      refine px_forget (n := 1) (lv' := [_, _, _, _, _, _, _]) rfl ?_
      refine px_forget (n := 2) (lv' := [_, _, _, _, _, _, _]) rfl ?_
      refine px_forget (n := 3) (lv' := [_, _, _, _, _, _, _]) rfl ?_
      exact (r_Link_takeMembers_106 h :)
    · replace h := (if_neg hc).symm.trans h
      refine px_ld rfl rfl rfl rfl rfl ?_
      refine px_ic (k := 8) rfl rfl rfl ?_
      refine px_icgt rfl rfl rfl (fun hc => ?_) (fun hc => ?_)
      · replace h := (if_pos hc).symm.trans h
        refine px_forget (n := 0) (lv' := [_, _, _, _, _, _, _]) rfl ?_
        refine px_forget (n := 1) (lv' := [_, _, _, _, _, _, _]) rfl ?_
        refine px_forget (n := 2) (lv' := [_, _, _, _, _, _, _]) rfl ?_
        refine px_forget (n := 3) (lv' := [_, _, _, _, _, _, _]) rfl ?_
        exact (r_Link_takeMembers_106 h :)
      · replace h := (if_neg hc).symm.trans h
        refine px_ic (k := 0) rfl rfl rfl ?_
        refine px_st (lv' := [_, _, _, _, _, _, _]) rfl rfl rfl rfl rfl rfl rfl ?_
        refine px_ic (k := 0) rfl rfl rfl ?_
        refine px_st (lv' := [_, _, _, _, _, _, _]) rfl rfl rfl rfl rfl rfl rfl ?_
        exact (r_Link_takeMembers_19 @ih _ h :)
def f_Link_takeMembers (F : Nat) (c : px_CT) (a0 : Nat) (a1 : Int32) (ph : px_H) : Option (Int32 × px_H) :=
  f_Link_takeMembers_4 F c F a0 a1 (nI 1) (nI 0) ph
theorem r_Link_takeMembers {l : Launch} {g : px_G} {d F : Nat} {a0 : Nat} {a1 : Int32} {ph : px_H} {r : Int32} {ph' : px_H} (h : f_Link_takeMembers F (px_ct g) a0 a1 ph = some (r, ph')) : PW l g (d + 5) m_Link_takeMembers 0 [.ref a0, .int a1, px_u, px_u, px_u, px_u, px_u] [] ph (px_qI r ph') := by
  unfold f_Link_takeMembers at h
  refine px_ic (k := 1) rfl rfl rfl ?_
  refine px_st (lv' := [_, _, _, _, _, _, _]) rfl rfl rfl rfl rfl rfl rfl ?_
  refine px_ic (k := 0) rfl rfl rfl ?_
  refine px_st (lv' := [_, _, _, _, _, _, _]) rfl rfl rfl rfl rfl rfl rfl ?_
  exact (r_Link_takeMembers_4 _ h :)
def f_Name_setText_29 (F : Nat) (c : px_CT) (ph : px_H) : Option (Unit × px_H) :=
  some ((), ph)
theorem r_Name_setText_29 {l : Launch} {g : px_G} {d F : Nat} {ph : px_H} {r : Unit} {ph' : px_H} (h : f_Name_setText_29 F (px_ct g) ph = some (r, ph')) : PW l g (d + 5) m_Name_setText 29 [px_u, px_u, px_u] [] ph (px_qV r ph') := by
  unfold f_Name_setText_29 at h
  cases h
  exact px_vret rfl rfl rfl ⟨rfl, rfl⟩
def f_Name_setText_6 (F : Nat) (c : px_CT) : Nat → Nat → Nat → Int32 → px_H → Option (Unit × px_H)
  | 0, _, _, _, _ => none
  | n + 1, a0, a1, a2, ph =>
    (xsl a1).bind fun t1 =>
    if t1 ≤ a2 then
      f_Name_setText_29 F c ph
    else
      (xsc a1 a2).bind fun t2 =>
      (xo ph 5 a0).bind fun _ =>
      xb (f_Name_append F c a0 t2 ph) fun _ ph3 =>
      f_Name_setText_6 F c n a0 a1 (a2 + nI 1) ph3
theorem r_Name_setText_6 {l : Launch} {g : px_G} {d F : Nat} : ∀ (n : Nat) {a0 : Nat} {a1 : Nat} {a2 : Int32} {ph : px_H} {r : Unit} {ph' : px_H}, f_Name_setText_6 F (px_ct g) n a0 a1 a2 ph = some (r, ph') → PW l g (d + 5) m_Name_setText 6 [.ref a0, .retAddr (pg_nc + a1), .int a2] [] ph (px_qV r ph') := by
  intro n
  induction n with
  | zero => intro _ _ _ _ _ _ h; cases h
  | succ n ih =>
    intro a0 a1 a2 ph r ph' h
    unfold f_Name_setText_6 at h
    refine px_ld rfl rfl rfl rfl rfl ?_
    refine px_ld rfl rfl rfl rfl rfl ?_
    obtain ⟨t1, h0, h⟩ := xs_some h
    obtain ⟨e0, e3⟩ := xsl_some h0
    subst e3
    refine px_slen rfl e0 rfl rfl ?_
    refine px_icge rfl rfl rfl (fun hc => ?_) (fun hc => ?_)
    · replace h := (if_pos hc).symm.trans h
      refine px_forget (n := 0) (lv' := [_, _, _]) rfl ?_
      refine px_forget (n := 1) (lv' := [_, _, _]) rfl ?_
      refine px_forget (n := 2) (lv' := [_, _, _]) rfl ?_
      exact (r_Name_setText_29 h :)
    · replace h := (if_neg hc).symm.trans h
      refine px_ld rfl rfl rfl rfl rfl ?_
      refine px_ld rfl rfl rfl rfl rfl ?_
      refine px_ld rfl rfl rfl rfl rfl ?_
      obtain ⟨t2, h0, h⟩ := xs_some h
      obtain ⟨k, e0, e1, e2, e3⟩ := xsc_some h0
      subst e3
      rw [e0]
      refine px_schar rfl e1 e2 rfl rfl ?_
      rw [← e0]
      obtain ⟨fs, h0, h⟩ := xs_some h
      have e1 := xo_some h0
      obtain ⟨u0, ph3, h0, h⟩ := xb_some h
      refine px_cV1 rfl rfl e1 rfl rfl rfl rfl rfl rfl rfl (r_Name_append h0 :) (fun _ _ q => nomatch q.2) (fun r ph' q => ?_)
      obtain ⟨rfl, q⟩ := q
      cases q
      refine px_iinc (lv' := [_, _, _]) rfl rfl rfl rfl rfl rfl ?_
      refine px_goto rfl rfl rfl ?_
      exact (ih h :)
def f_Name_setText (F : Nat) (c : px_CT) (a0 : Nat) (a1 : Nat) (ph : px_H) : Option (Unit × px_H) :=
  (xo ph 5 a0).bind fun _ =>
  xb (f_Name_wipe F c a0 ph) fun _ ph1 =>
  f_Name_setText_6 F c F a0 a1 (nI 0) ph1
theorem r_Name_setText {l : Launch} {g : px_G} {d F : Nat} {a0 : Nat} {a1 : Nat} {ph : px_H} {r : Unit} {ph' : px_H} (h : f_Name_setText F (px_ct g) a0 a1 ph = some (r, ph')) : PW l g (d + 5) m_Name_setText 0 [.ref a0, .retAddr (pg_nc + a1), px_u] [] ph (px_qV r ph') := by
  unfold f_Name_setText at h
  refine px_ld rfl rfl rfl rfl rfl ?_
  obtain ⟨fs, h0, h⟩ := xs_some h
  have e1 := xo_some h0
  obtain ⟨u0, ph1, h0, h⟩ := xb_some h
  refine px_cV0 rfl rfl e1 rfl rfl rfl rfl rfl rfl rfl (r_Name_wipe h0 :) (fun _ _ q => nomatch q.2) (fun r ph' q => ?_)
  obtain ⟨rfl, q⟩ := q
  cases q
  refine px_ic (k := 0) rfl rfl rfl ?_
  refine px_st (lv' := [_, _, _]) rfl rfl rfl rfl rfl rfl rfl ?_
  exact (r_Name_setText_6 _ h :)
def f_Link_defineOwn_47 (F : Nat) (c : px_CT) (ph : px_H) : Option (Unit × px_H) :=
  some ((), ph)
theorem r_Link_defineOwn_47 {l : Launch} {g : px_G} {d F : Nat} {ph : px_H} {r : Unit} {ph' : px_H} (h : f_Link_defineOwn_47 F (px_ct g) ph = some (r, ph')) : PW l g (d + 6) m_Link_defineOwn 47 [px_u, px_u, px_u, px_u] [] ph (px_qV r ph') := by
  unfold f_Link_defineOwn_47 at h
  cases h
  exact px_vret rfl rfl rfl ⟨rfl, rfl⟩
def f_Link_defineOwn (F : Nat) (c : px_CT) (a0 : Nat) (a1 : Nat) (a2 : Int32) (ph : px_H) : Option (Unit × px_H) :=
  (xgR ph 3 11 a0).bind fun t1 =>
  (xo ph 5 t1).bind fun _ =>
  xb (f_Name_setText F c t1 a1 ph) fun _ ph2 =>
  (xgR ph2 3 3 a0).bind fun t3 =>
  (xgR ph2 3 11 a0).bind fun t4 =>
  (xo ph2 6 t3).bind fun _ =>
  xb (f_Names_find F c t3 (some t4) ph2) fun t5 ph6 =>
  (match t5 with
    | none => f_Link_defineOwn_47 F c ph6
    | some p7 => (xgI ph6 5 4 p7).bind fun t8 =>
    if t8 = 0 then
      (xpI ph6 5 4 p7 (nI 3)).bind fun ph9 =>
      (xpI ph9 5 5 p7 (nI 4)).bind fun ph10 =>
      (xpJ ph10 5 7 p7 a2.toInt64).bind fun ph11 =>
      f_Link_defineOwn_47 F c ph11
    else
      f_Link_defineOwn_47 F c ph6)
theorem r_Link_defineOwn {l : Launch} {g : px_G} {d F : Nat} {a0 : Nat} {a1 : Nat} {a2 : Int32} {ph : px_H} {r : Unit} {ph' : px_H} (h : f_Link_defineOwn F (px_ct g) a0 a1 a2 ph = some (r, ph')) : PW l g (d + 6) m_Link_defineOwn 0 [.ref a0, .retAddr (pg_nc + a1), .int a2, px_u] [] ph (px_qV r ph') := by
  unfold f_Link_defineOwn at h
  refine px_ld rfl rfl rfl rfl rfl ?_
  obtain ⟨t1, h0, h⟩ := xs_some h
  obtain ⟨fs, e1, e2⟩ := xgR_some h0
  refine px_get rfl e1 e2 rfl ?_
  refine px_ld rfl rfl rfl rfl rfl ?_
  obtain ⟨fs, h0, h⟩ := xs_some h
  have e1 := xo_some h0
  obtain ⟨u0, ph2, h0, h⟩ := xb_some h
  refine px_cV1 rfl rfl e1 rfl rfl rfl rfl rfl rfl rfl (r_Name_setText h0 :) (fun _ _ q => nomatch q.2) (fun r ph' q => ?_)
  obtain ⟨rfl, q⟩ := q
  cases q
  refine px_ld rfl rfl rfl rfl rfl ?_
  obtain ⟨t3, h0, h⟩ := xs_some h
  obtain ⟨fs, e1, e2⟩ := xgR_some h0
  refine px_get rfl e1 e2 rfl ?_
  refine px_ld rfl rfl rfl rfl rfl ?_
  obtain ⟨t4, h0, h⟩ := xs_some h
  obtain ⟨fs, e1, e2⟩ := xgR_some h0
  refine px_get rfl e1 e2 rfl ?_
  obtain ⟨fs, h0, h⟩ := xs_some h
  have e1 := xo_some h0
  obtain ⟨t5, ph6, h0, h⟩ := xb_some h
  refine px_cV1 rfl rfl e1 rfl rfl rfl rfl rfl rfl rfl (r_Names_find h0 :) (fun _ _ q => nomatch q.2) (fun r ph' q => ?_)
  obtain ⟨rfl, q⟩ := q
  cases q
  refine px_st (lv' := [.ref a0, .retAddr (pg_nc + a1), .int a2, va_rf t5]) rfl rfl (by first | rfl | (cases t5 <;> rfl)) (by first | rfl | (cases t5 <;> rfl)) rfl (by first | rfl | (cases t5 <;> rfl)) rfl ?_
  refine px_ld rfl rfl rfl (by first | rfl | (cases t5 <;> rfl)) rfl ?_
  cases t5 with
  | none =>
    refine px_ifnullN rfl rfl rfl ?_
    refine px_forget (n := 0) (lv' := [_, _, _, _]) rfl ?_
    refine px_forget (n := 1) (lv' := [_, _, _, _]) rfl ?_
    refine px_forget (n := 2) (lv' := [_, _, _, _]) rfl ?_
    refine px_forget (n := 3) (lv' := [_, _, _, _]) rfl ?_
    exact (r_Link_defineOwn_47 h :)
  | some p7 =>
    refine px_ifnullR rfl rfl ?_
    refine px_ld rfl rfl rfl rfl rfl ?_
    obtain ⟨t8, h0, h⟩ := xs_some h
    obtain ⟨fs, e1, e2⟩ := xgI_some h0
    refine px_get rfl e1 e2 rfl ?_
    refine px_ifne rfl rfl rfl (fun hc => ?_) (fun hc => ?_)
    · replace h := (if_neg hc).symm.trans h
      refine px_forget (n := 0) (lv' := [_, _, _, _]) rfl ?_
      refine px_forget (n := 1) (lv' := [_, _, _, _]) rfl ?_
      refine px_forget (n := 2) (lv' := [_, _, _, _]) rfl ?_
      refine px_forget (n := 3) (lv' := [_, _, _, _]) rfl ?_
      exact (r_Link_defineOwn_47 h :)
    · replace h := (if_pos hc).symm.trans h
      refine px_ld rfl rfl rfl rfl rfl ?_
      refine px_ic (k := 3) rfl rfl rfl ?_
      obtain ⟨ph9, h0, h⟩ := xs_some h
      obtain ⟨fs, e1, e2, e3⟩ := xpI_some h0
      subst e3
      refine px_put rfl e1 e2 trivial rfl ?_
      refine px_ld rfl rfl rfl rfl rfl ?_
      refine px_ic (k := 4) rfl rfl rfl ?_
      obtain ⟨ph10, h0, h⟩ := xs_some h
      obtain ⟨fs, e1, e2, e3⟩ := xpI_some h0
      subst e3
      refine px_put rfl e1 e2 trivial rfl ?_
      refine px_ld rfl rfl rfl rfl rfl ?_
      refine px_ld rfl rfl rfl rfl rfl ?_
      refine px_alu rfl rfl rfl ?_
      obtain ⟨ph11, h0, h⟩ := xs_some h
      obtain ⟨fs, e1, e2, e3⟩ := xpJ_some h0
      subst e3
      refine px_put rfl e1 e2 trivial rfl ?_
      refine px_forget (n := 0) (lv' := [_, _, _, _]) rfl ?_
      refine px_forget (n := 1) (lv' := [_, _, _, _]) rfl ?_
      refine px_forget (n := 2) (lv' := [_, _, _, _]) rfl ?_
      refine px_forget (n := 3) (lv' := [_, _, _, _]) rfl ?_
      exact (r_Link_defineOwn_47 h :)
def f_Link_isNameLeft_136 (F : Nat) (c : px_CT) (s0 : Int32) (ph : px_H) : Option (Int32 × px_H) :=
  xz s0 ph
theorem r_Link_isNameLeft_136 {l : Launch} {g : px_G} {d F : Nat} {s0 : Int32} {ph : px_H} {r : Int32} {ph' : px_H} (h : f_Link_isNameLeft_136 F (px_ct g) s0 ph = some (r, ph')) : PW l g (d + 2) m_Link_isNameLeft 136 [px_u, px_u, px_u, px_u] [.int s0] ph (px_qI r ph') := by
  unfold f_Link_isNameLeft_136 at h
  obtain ⟨e0, e1, e2⟩ := xz_some h
  subst e1 e2
  exact px_iret rfl (Or.inr ⟨rfl, e0⟩) rfl ⟨rfl, rfl⟩
def f_Link_isNameLeft_131 (F : Nat) (c : px_CT) (ph : px_H) : Option (Int32 × px_H) :=
  f_Link_isNameLeft_136 F c (nI 1) ph
theorem r_Link_isNameLeft_131 {l : Launch} {g : px_G} {d F : Nat} {ph : px_H} {r : Int32} {ph' : px_H} (h : f_Link_isNameLeft_131 F (px_ct g) ph = some (r, ph')) : PW l g (d + 2) m_Link_isNameLeft 131 [px_u, px_u, px_u, px_u] [] ph (px_qI r ph') := by
  unfold f_Link_isNameLeft_131 at h
  refine px_ic (k := 1) rfl rfl rfl ?_
  refine px_goto rfl (by decide) rfl ?_
  exact (r_Link_isNameLeft_136 h :)
def f_Link_isNameLeft_108 (F : Nat) (c : px_CT) (a0 : Nat) (ph : px_H) : Option (Int32 × px_H) :=
  (xgR ph 3 3 a0).bind fun t1 =>
  (xgR ph 3 12 a0).bind fun t2 =>
  (xo ph 6 t1).bind fun _ =>
  xb (f_Names_find F c t1 (some t2) ph) fun t3 ph4 =>
  (match t3 with
    | none => f_Link_isNameLeft_131 F c ph4
    | some p5 => (xgI ph4 5 4 p5).bind fun t6 =>
    if t6 = 0 then
      f_Link_isNameLeft_131 F c ph4
    else
      f_Link_isNameLeft_136 F c (nI 0) ph4)
theorem r_Link_isNameLeft_108 {l : Launch} {g : px_G} {d F : Nat} {a0 : Nat} {ph : px_H} {r : Int32} {ph' : px_H} (h : f_Link_isNameLeft_108 F (px_ct g) a0 ph = some (r, ph')) : PW l g (d + 2) m_Link_isNameLeft 108 [.ref a0, px_u, px_u, px_u] [] ph (px_qI r ph') := by
  unfold f_Link_isNameLeft_108 at h
  refine px_ld rfl rfl rfl rfl rfl ?_
  obtain ⟨t1, h0, h⟩ := xs_some h
  obtain ⟨fs, e1, e2⟩ := xgR_some h0
  refine px_get rfl e1 e2 rfl ?_
  refine px_ld rfl rfl rfl rfl rfl ?_
  obtain ⟨t2, h0, h⟩ := xs_some h
  obtain ⟨fs, e1, e2⟩ := xgR_some h0
  refine px_get rfl e1 e2 rfl ?_
  obtain ⟨fs, h0, h⟩ := xs_some h
  have e1 := xo_some h0
  obtain ⟨t3, ph4, h0, h⟩ := xb_some h
  refine px_cV1 rfl rfl e1 rfl rfl rfl rfl rfl rfl rfl (r_Names_find h0 :) (fun _ _ q => nomatch q.2) (fun r ph' q => ?_)
  obtain ⟨rfl, q⟩ := q
  cases q
  refine px_st (lv' := [.ref a0, va_rf t3, px_u, px_u]) rfl rfl (by first | rfl | (cases t3 <;> rfl)) (by first | rfl | (cases t3 <;> rfl)) rfl (by first | rfl | (cases t3 <;> rfl)) rfl ?_
  refine px_ld rfl rfl rfl (by first | rfl | (cases t3 <;> rfl)) rfl ?_
  cases t3 with
  | none =>
    refine px_ifnullN rfl (by decide) rfl ?_
    refine px_forget (n := 0) (lv' := [_, _, _, _]) rfl ?_
    refine px_forget (n := 1) (lv' := [_, _, _, _]) rfl ?_
    exact (r_Link_isNameLeft_131 h :)
  | some p5 =>
    refine px_ifnullR rfl rfl ?_
    refine px_ld rfl rfl rfl rfl rfl ?_
    obtain ⟨t6, h0, h⟩ := xs_some h
    obtain ⟨fs, e1, e2⟩ := xgI_some h0
    refine px_get rfl e1 e2 rfl ?_
    refine px_ifne rfl (by decide) rfl (fun hc => ?_) (fun hc => ?_)
    · replace h := (if_neg hc).symm.trans h
      refine px_ic (k := 0) rfl rfl rfl ?_
      refine px_forget (n := 0) (lv' := [_, _, _, _]) rfl ?_
      refine px_forget (n := 1) (lv' := [_, _, _, _]) rfl ?_
      exact (r_Link_isNameLeft_136 h :)
    · replace h := (if_pos hc).symm.trans h
      refine px_forget (n := 0) (lv' := [_, _, _, _]) rfl ?_
      refine px_forget (n := 1) (lv' := [_, _, _, _]) rfl ?_
      exact (r_Link_isNameLeft_131 h :)
def f_Link_isNameLeft_102 (F : Nat) (c : px_CT) (k55 : Nat → Int32 → px_H → Option (Int32 × px_H)) (a0 : Nat) (a1 : Int32) (ph : px_H) : Option (Int32 × px_H) :=
  k55 a0 (a1 + nI 1) ph
theorem r_Link_isNameLeft_102 {l : Launch} {g : px_G} {d F : Nat} {k55 : Nat → Int32 → px_H → Option (Int32 × px_H)} (hk55 : ∀ {a0 : Nat} {a1 : Int32} {ph : px_H} {r : Int32} {ph' : px_H}, k55 a0 a1 ph = some (r, ph') → PW l g (d + 2) m_Link_isNameLeft 55 [.ref a0, .int a1, px_u, px_u] [] ph (px_qI r ph')) {a0 : Nat} {a1 : Int32} {ph : px_H} {r : Int32} {ph' : px_H} (h : f_Link_isNameLeft_102 F (px_ct g) k55 a0 a1 ph = some (r, ph')) : PW l g (d + 2) m_Link_isNameLeft 102 [.ref a0, .int a1, px_u, px_u] [] ph (px_qI r ph') := by
  unfold f_Link_isNameLeft_102 at h
  refine px_iinc (lv' := [_, _, _, _]) rfl rfl rfl rfl rfl rfl ?_
  refine px_goto rfl (by decide) rfl ?_
  exact (hk55 h :)
def f_Link_isNameLeft_96 (F : Nat) (c : px_CT) (k55 : Nat → Int32 → px_H → Option (Int32 × px_H)) (k65 : Nat → Int32 → Int32 → px_H → Option (Int32 × px_H)) (a0 : Nat) (a1 : Int32) (a2 : Int32) (ph : px_H) : Option (Int32 × px_H) :=
  k65 a0 a1 (a2 + nI 1) ph
theorem r_Link_isNameLeft_96 {l : Launch} {g : px_G} {d F : Nat} {k55 : Nat → Int32 → px_H → Option (Int32 × px_H)} (hk55 : ∀ {a0 : Nat} {a1 : Int32} {ph : px_H} {r : Int32} {ph' : px_H}, k55 a0 a1 ph = some (r, ph') → PW l g (d + 2) m_Link_isNameLeft 55 [.ref a0, .int a1, px_u, px_u] [] ph (px_qI r ph')) {k65 : Nat → Int32 → Int32 → px_H → Option (Int32 × px_H)} (hk65 : ∀ {a0 : Nat} {a1 : Int32} {a2 : Int32} {ph : px_H} {r : Int32} {ph' : px_H}, k65 a0 a1 a2 ph = some (r, ph') → PW l g (d + 2) m_Link_isNameLeft 65 [.ref a0, .int a1, .int a2, px_u] [] ph (px_qI r ph')) {a0 : Nat} {a1 : Int32} {a2 : Int32} {ph : px_H} {r : Int32} {ph' : px_H} (h : f_Link_isNameLeft_96 F (px_ct g) k55 k65 a0 a1 a2 ph = some (r, ph')) : PW l g (d + 2) m_Link_isNameLeft 96 [.ref a0, .int a1, .int a2, px_u] [] ph (px_qI r ph') := by
  unfold f_Link_isNameLeft_96 at h
  refine px_iinc (lv' := [_, _, _, _]) rfl rfl rfl rfl rfl rfl ?_
  refine px_goto rfl (by decide) rfl ?_
  exact (hk65 h :)
def f_Link_isNameLeft_89 (F : Nat) (c : px_CT) (a0 : Nat) (a3 : Option Nat) (ph : px_H) : Option (Int32 × px_H) :=
  (xpN ph 3 13 a0 a3).bind fun ph1 =>
  some (nI 1, ph1)
theorem r_Link_isNameLeft_89 {l : Launch} {g : px_G} {d F : Nat} {a0 : Nat} {a3 : Option Nat} {ph : px_H} {r : Int32} {ph' : px_H} (h : f_Link_isNameLeft_89 F (px_ct g) a0 a3 ph = some (r, ph')) : PW l g (d + 2) m_Link_isNameLeft 89 [.ref a0, px_u, px_u, va_rf a3] [] ph (px_qI r ph') := by
  unfold f_Link_isNameLeft_89 at h
  refine px_ld rfl rfl rfl rfl rfl ?_
  refine px_ld rfl rfl rfl (by first | rfl | (cases a3 <;> rfl)) rfl ?_
  obtain ⟨ph1, h0, h⟩ := xs_some h
  obtain ⟨fs, e1, e2, e3⟩ := xpN_some h0
  subst e3
  refine px_put rfl e1 e2 (by first | trivial | (cases a3 <;> trivial)) rfl ?_
  refine px_ic (k := 1) rfl rfl rfl ?_
  cases h
  exact px_iret rfl (Or.inr ⟨rfl, Or.inr rfl⟩) rfl ⟨rfl, rfl⟩
def f_Link_isNameLeft_65 (F : Nat) (c : px_CT) (k55 : Nat → Int32 → px_H → Option (Int32 × px_H)) : Nat → Nat → Int32 → Int32 → px_H → Option (Int32 × px_H)
  | 0, _, _, _, _ => none
  | n + 1, a0, a1, a2, ph =>
    if (nI 64) ≤ a2 then
      f_Link_isNameLeft_102 F c k55 a0 a1 ph
    else
      (xo ph 3 a0).bind fun _ =>
      xb (f_Link_nameOf F c a0 a1 a2 ph) fun t1 ph2 =>
      (match t1 with
        | none => f_Link_isNameLeft_96 F c k55 (f_Link_isNameLeft_65 F c k55 n) a0 a1 a2 ph2
        | some p3 => xb (f_Link_isWanted F c (some p3) ph2) fun t4 ph5 =>
        if t4 = 0 then
          f_Link_isNameLeft_96 F c k55 (f_Link_isNameLeft_65 F c k55 n) a0 a1 a2 ph5
        else
          f_Link_isNameLeft_89 F c a0 (some p3) ph5)
theorem r_Link_isNameLeft_65 {l : Launch} {g : px_G} {d F : Nat} {k55 : Nat → Int32 → px_H → Option (Int32 × px_H)} (hk55 : ∀ {a0 : Nat} {a1 : Int32} {ph : px_H} {r : Int32} {ph' : px_H}, k55 a0 a1 ph = some (r, ph') → PW l g (d + 2) m_Link_isNameLeft 55 [.ref a0, .int a1, px_u, px_u] [] ph (px_qI r ph')) : ∀ (n : Nat) {a0 : Nat} {a1 : Int32} {a2 : Int32} {ph : px_H} {r : Int32} {ph' : px_H}, f_Link_isNameLeft_65 F (px_ct g) k55 n a0 a1 a2 ph = some (r, ph') → PW l g (d + 2) m_Link_isNameLeft 65 [.ref a0, .int a1, .int a2, px_u] [] ph (px_qI r ph') := by
  intro n
  induction n with
  | zero => intro _ _ _ _ _ _ h; cases h
  | succ n ih =>
    intro a0 a1 a2 ph r ph' h
    unfold f_Link_isNameLeft_65 at h
    refine px_ld rfl rfl rfl rfl rfl ?_
    refine px_ic (k := 64) rfl rfl rfl ?_
    refine px_icge rfl (by decide) rfl (fun hc => ?_) (fun hc => ?_)
    · replace h := (if_pos hc).symm.trans h
      refine px_forget (n := 2) (lv' := [_, _, _, _]) rfl ?_
      exact (r_Link_isNameLeft_102 @hk55 h :)
    · replace h := (if_neg hc).symm.trans h
      refine px_ld rfl rfl rfl rfl rfl ?_
      refine px_ld rfl rfl rfl rfl rfl ?_
      refine px_ld rfl rfl rfl rfl rfl ?_
      obtain ⟨fs, h0, h⟩ := xs_some h
      have e1 := xo_some h0
      obtain ⟨t1, ph2, h0, h⟩ := xb_some h
      refine px_cV2 rfl rfl e1 rfl rfl rfl rfl rfl rfl rfl (r_Link_nameOf h0 :) (fun _ _ q => nomatch q.2) (fun r ph' q => ?_)
      obtain ⟨rfl, q⟩ := q
      cases q
      refine px_st (lv' := [.ref a0, .int a1, .int a2, va_rf t1]) rfl rfl (by first | rfl | (cases t1 <;> rfl)) (by first | rfl | (cases t1 <;> rfl)) rfl (by first | rfl | (cases t1 <;> rfl)) rfl ?_
      refine px_ld rfl rfl rfl (by first | rfl | (cases t1 <;> rfl)) rfl ?_
      cases t1 with
      | none =>
        refine px_ifnullN rfl (by decide) rfl ?_
        refine px_forget (n := 3) (lv' := [_, _, _, _]) rfl ?_
        exact (r_Link_isNameLeft_96 @hk55 @ih h :)
      | some p3 =>
        refine px_ifnullR rfl rfl ?_
        refine px_ld rfl rfl rfl rfl rfl ?_
        obtain ⟨t4, ph5, h0, h⟩ := xb_some h
        refine px_cS1 rfl rfl rfl rfl rfl rfl rfl (r_Link_isWanted h0 :) (fun _ _ q => nomatch q.2) (fun r ph' q => ?_)
        obtain ⟨rfl, q⟩ := q
        cases q
        refine px_ifeq rfl (by decide) rfl (fun hc => ?_) (fun hc => ?_)
        · replace h := (if_pos hc).symm.trans h
          refine px_forget (n := 3) (lv' := [_, _, _, _]) rfl ?_
          exact (r_Link_isNameLeft_96 @hk55 @ih h :)
        · replace h := (if_neg hc).symm.trans h
          refine px_forget (n := 1) (lv' := [_, _, _, _]) rfl ?_
          refine px_forget (n := 2) (lv' := [_, _, _, _]) rfl ?_
          exact (r_Link_isNameLeft_89 h :)
def f_Link_isNameLeft_55 (F : Nat) (c : px_CT) : Nat → Nat → Int32 → px_H → Option (Int32 × px_H)
  | 0, _, _, _ => none
  | n + 1, a0, a1, ph =>
    (xgI ph 3 14 a0).bind fun t1 =>
    if t1 ≤ a1 then
      f_Link_isNameLeft_108 F c a0 ph
    else
      f_Link_isNameLeft_65 F c (f_Link_isNameLeft_55 F c n) F a0 a1 (nI 0) ph
theorem r_Link_isNameLeft_55 {l : Launch} {g : px_G} {d F : Nat} : ∀ (n : Nat) {a0 : Nat} {a1 : Int32} {ph : px_H} {r : Int32} {ph' : px_H}, f_Link_isNameLeft_55 F (px_ct g) n a0 a1 ph = some (r, ph') → PW l g (d + 2) m_Link_isNameLeft 55 [.ref a0, .int a1, px_u, px_u] [] ph (px_qI r ph') := by
  intro n
  induction n with
  | zero => intro _ _ _ _ _ h; cases h
  | succ n ih =>
    intro a0 a1 ph r ph' h
    unfold f_Link_isNameLeft_55 at h
    refine px_ld rfl rfl rfl rfl rfl ?_
    refine px_ld rfl rfl rfl rfl rfl ?_
    obtain ⟨t1, h0, h⟩ := xs_some h
    obtain ⟨fs, e1, e2⟩ := xgI_some h0
    refine px_get rfl e1 e2 rfl ?_
    refine px_icge rfl (by decide) rfl (fun hc => ?_) (fun hc => ?_)
    · replace h := (if_pos hc).symm.trans h
      refine px_forget (n := 1) (lv' := [_, _, _, _]) rfl ?_
      exact (r_Link_isNameLeft_108 h :)
    · replace h := (if_neg hc).symm.trans h
      refine px_ic (k := 0) rfl rfl rfl ?_
      refine px_st (lv' := [_, _, _, _]) rfl rfl rfl rfl rfl rfl rfl ?_
      exact (r_Link_isNameLeft_65 @ih _ h :)
def f_Link_isNameLeft_53 (F : Nat) (c : px_CT) (a0 : Nat) (ph : px_H) : Option (Int32 × px_H) :=
  f_Link_isNameLeft_55 F c F a0 (nI 0) ph
theorem r_Link_isNameLeft_53 {l : Launch} {g : px_G} {d F : Nat} {a0 : Nat} {ph : px_H} {r : Int32} {ph' : px_H} (h : f_Link_isNameLeft_53 F (px_ct g) a0 ph = some (r, ph')) : PW l g (d + 2) m_Link_isNameLeft 53 [.ref a0, px_u, px_u, px_u] [] ph (px_qI r ph') := by
  unfold f_Link_isNameLeft_53 at h
  refine px_ic (k := 0) rfl rfl rfl ?_
  refine px_st (lv' := [_, _, _, _]) rfl rfl rfl rfl rfl rfl rfl ?_
  exact (r_Link_isNameLeft_55 _ h :)
def f_Link_isNameLeft_47 (F : Nat) (c : px_CT) (k2 : Nat → Int32 → px_H → Option (Int32 × px_H)) (a0 : Nat) (a1 : Int32) (ph : px_H) : Option (Int32 × px_H) :=
  k2 a0 (a1 + nI 1) ph
theorem r_Link_isNameLeft_47 {l : Launch} {g : px_G} {d F : Nat} {k2 : Nat → Int32 → px_H → Option (Int32 × px_H)} (hk2 : ∀ {a0 : Nat} {a1 : Int32} {ph : px_H} {r : Int32} {ph' : px_H}, k2 a0 a1 ph = some (r, ph') → PW l g (d + 2) m_Link_isNameLeft 2 [.ref a0, .int a1, px_u, px_u] [] ph (px_qI r ph')) {a0 : Nat} {a1 : Int32} {ph : px_H} {r : Int32} {ph' : px_H} (h : f_Link_isNameLeft_47 F (px_ct g) k2 a0 a1 ph = some (r, ph')) : PW l g (d + 2) m_Link_isNameLeft 47 [.ref a0, .int a1, px_u, px_u] [] ph (px_qI r ph') := by
  unfold f_Link_isNameLeft_47 at h
  refine px_iinc (lv' := [_, _, _, _]) rfl rfl rfl rfl rfl rfl ?_
  refine px_goto rfl (by decide) rfl ?_
  exact (hk2 h :)
def f_Link_isNameLeft_40 (F : Nat) (c : px_CT) (a0 : Nat) (a2 : Option Nat) (ph : px_H) : Option (Int32 × px_H) :=
  (xpN ph 3 13 a0 a2).bind fun ph1 =>
  some (nI 1, ph1)
theorem r_Link_isNameLeft_40 {l : Launch} {g : px_G} {d F : Nat} {a0 : Nat} {a2 : Option Nat} {ph : px_H} {r : Int32} {ph' : px_H} (h : f_Link_isNameLeft_40 F (px_ct g) a0 a2 ph = some (r, ph')) : PW l g (d + 2) m_Link_isNameLeft 40 [.ref a0, px_u, va_rf a2, px_u] [] ph (px_qI r ph') := by
  unfold f_Link_isNameLeft_40 at h
  refine px_ld rfl rfl rfl rfl rfl ?_
  refine px_ld rfl rfl rfl (by first | rfl | (cases a2 <;> rfl)) rfl ?_
  obtain ⟨ph1, h0, h⟩ := xs_some h
  obtain ⟨fs, e1, e2, e3⟩ := xpN_some h0
  subst e3
  refine px_put rfl e1 e2 (by first | trivial | (cases a2 <;> trivial)) rfl ?_
  refine px_ic (k := 1) rfl rfl rfl ?_
  cases h
  exact px_iret rfl (Or.inr ⟨rfl, Or.inr rfl⟩) rfl ⟨rfl, rfl⟩
def f_Link_isNameLeft_2 (F : Nat) (c : px_CT) : Nat → Nat → Int32 → px_H → Option (Int32 × px_H)
  | 0, _, _, _ => none
  | n + 1, a0, a1, ph =>
    (xgR ph 3 2 a0).bind fun t1 =>
    (xgI ph 6 2 t1).bind fun t2 =>
    if t2 ≤ a1 then
      f_Link_isNameLeft_53 F c a0 ph
    else
      (xgR ph 3 3 a0).bind fun t3 =>
      (xgR ph 3 2 a0).bind fun t4 =>
      (xo ph 6 t4).bind fun _ =>
      xb (f_Names_at F c t4 a1 ph) fun t5 ph6 =>
      (xo ph6 6 t3).bind fun _ =>
      xb (f_Names_find F c t3 t5 ph6) fun t7 ph8 =>
      (match t7 with
        | none => f_Link_isNameLeft_47 F c (f_Link_isNameLeft_2 F c n) a0 a1 ph8
        | some p9 => xb (f_Link_isWanted F c (some p9) ph8) fun t10 ph11 =>
        if t10 = 0 then
          f_Link_isNameLeft_47 F c (f_Link_isNameLeft_2 F c n) a0 a1 ph11
        else
          f_Link_isNameLeft_40 F c a0 (some p9) ph11)
theorem r_Link_isNameLeft_2 {l : Launch} {g : px_G} {d F : Nat} : ∀ (n : Nat) {a0 : Nat} {a1 : Int32} {ph : px_H} {r : Int32} {ph' : px_H}, f_Link_isNameLeft_2 F (px_ct g) n a0 a1 ph = some (r, ph') → PW l g (d + 2) m_Link_isNameLeft 2 [.ref a0, .int a1, px_u, px_u] [] ph (px_qI r ph') := by
  intro n
  induction n with
  | zero => intro _ _ _ _ _ h; cases h
  | succ n ih =>
    intro a0 a1 ph r ph' h
    unfold f_Link_isNameLeft_2 at h
    refine px_ld rfl rfl rfl rfl rfl ?_
    refine px_ld rfl rfl rfl rfl rfl ?_
    obtain ⟨t1, h0, h⟩ := xs_some h
    obtain ⟨fs, e1, e2⟩ := xgR_some h0
    refine px_get rfl e1 e2 rfl ?_
    obtain ⟨t2, h0, h⟩ := xs_some h
    obtain ⟨fs, e1, e2⟩ := xgI_some h0
    refine px_get rfl e1 e2 rfl ?_
    refine px_icge rfl (by decide) rfl (fun hc => ?_) (fun hc => ?_)
    · replace h := (if_pos hc).symm.trans h
      refine px_forget (n := 1) (lv' := [_, _, _, _]) rfl ?_
      exact (r_Link_isNameLeft_53 h :)
    · replace h := (if_neg hc).symm.trans h
      refine px_ld rfl rfl rfl rfl rfl ?_
      obtain ⟨t3, h0, h⟩ := xs_some h
      obtain ⟨fs, e1, e2⟩ := xgR_some h0
      refine px_get rfl e1 e2 rfl ?_
      refine px_ld rfl rfl rfl rfl rfl ?_
      obtain ⟨t4, h0, h⟩ := xs_some h
      obtain ⟨fs, e1, e2⟩ := xgR_some h0
      refine px_get rfl e1 e2 rfl ?_
      refine px_ld rfl rfl rfl rfl rfl ?_
      obtain ⟨fs, h0, h⟩ := xs_some h
      have e1 := xo_some h0
      obtain ⟨t5, ph6, h0, h⟩ := xb_some h
      refine px_cV1 rfl rfl e1 rfl rfl rfl rfl rfl rfl rfl (r_Names_at h0 :) (fun _ _ q => nomatch q.2) (fun r ph' q => ?_)
      obtain ⟨rfl, q⟩ := q
      cases q
      obtain ⟨fs, h0, h⟩ := xs_some h
      have e1 := xo_some h0
      obtain ⟨t7, ph8, h0, h⟩ := xb_some h
      refine px_cV1 (lv0 := [.ref t3, va_rf t5, px_u, px_u]) rfl rfl e1 rfl rfl rfl (by first | rfl | (cases t5 <;> rfl)) rfl (by first | rfl | (cases t5 <;> rfl)) rfl (r_Names_find h0 :) (fun _ _ q => nomatch q.2) (fun r ph' q => ?_)
      obtain ⟨rfl, q⟩ := q
      cases q
      refine px_st (lv' := [.ref a0, .int a1, va_rf t7, px_u]) rfl rfl (by first | rfl | (cases t7 <;> rfl)) (by first | rfl | (cases t7 <;> rfl)) rfl (by first | rfl | (cases t7 <;> rfl)) rfl ?_
      refine px_ld rfl rfl rfl (by first | rfl | (cases t7 <;> rfl)) rfl ?_
      cases t7 with
      | none =>
        refine px_ifnullN rfl (by decide) rfl ?_
        refine px_forget (n := 2) (lv' := [_, _, _, _]) rfl ?_
        exact (r_Link_isNameLeft_47 @ih h :)
      | some p9 =>
        refine px_ifnullR rfl rfl ?_
        refine px_ld rfl rfl rfl rfl rfl ?_
        obtain ⟨t10, ph11, h0, h⟩ := xb_some h
        refine px_cS1 rfl rfl rfl rfl rfl rfl rfl (r_Link_isWanted h0 :) (fun _ _ q => nomatch q.2) (fun r ph' q => ?_)
        obtain ⟨rfl, q⟩ := q
        cases q
        refine px_ifeq rfl (by decide) rfl (fun hc => ?_) (fun hc => ?_)
        · replace h := (if_pos hc).symm.trans h
          refine px_forget (n := 2) (lv' := [_, _, _, _]) rfl ?_
          exact (r_Link_isNameLeft_47 @ih h :)
        · replace h := (if_neg hc).symm.trans h
          refine px_forget (n := 1) (lv' := [_, _, _, _]) rfl ?_
          exact (r_Link_isNameLeft_40 h :)
def f_Link_isNameLeft (F : Nat) (c : px_CT) (a0 : Nat) (ph : px_H) : Option (Int32 × px_H) :=
  f_Link_isNameLeft_2 F c F a0 (nI 0) ph
theorem r_Link_isNameLeft {l : Launch} {g : px_G} {d F : Nat} {a0 : Nat} {ph : px_H} {r : Int32} {ph' : px_H} (h : f_Link_isNameLeft F (px_ct g) a0 ph = some (r, ph')) : PW l g (d + 2) m_Link_isNameLeft 0 [.ref a0, px_u, px_u, px_u] [] ph (px_qI r ph') := by
  unfold f_Link_isNameLeft at h
  refine px_ic (k := 0) rfl rfl rfl ?_
  refine px_st (lv' := [_, _, _, _]) rfl rfl rfl rfl rfl rfl rfl ?_
  exact (r_Link_isNameLeft_2 _ h :)
def f_Link_definedAt_47 (F : Nat) (c : px_CT) (s0 : Option Nat) (ph : px_H) : Option (Option Nat × px_H) :=
  some (s0, ph)
theorem r_Link_definedAt_47 {l : Launch} {g : px_G} {d F : Nat} {s0 : Option Nat} {ph : px_H} {r : Option Nat} {ph' : px_H} (h : f_Link_definedAt_47 F (px_ct g) s0 ph = some (r, ph')) : PW l g (d + 0) m_Link_definedAt 47 [px_u, px_u, px_u] [va_rf s0] ph (px_qN r ph') := by
  unfold f_Link_definedAt_47 at h
  cases h
  exact px_aret rfl rfl (Or.inl ⟨_, rfl⟩) (by first | rfl | (cases s0 <;> rfl) | (cases r <;> rfl) | (cases s0 <;> cases r <;> rfl)) rfl ⟨rfl, rfl⟩
def f_Link_definedAt_31 (F : Nat) (c : px_CT) (a0 : Nat) (s0 : Option Nat) (ph : px_H) : Option (Option Nat × px_H) :=
  (match s0 with
    | none => (xgR ph 3 3 a0).bind fun t2 =>
    (xgR ph 6 1 t2).bind fun t3 =>
    f_Link_definedAt_47 F c (some t3) ph
    | some p1 => f_Link_definedAt_47 F c (some p1) ph)
theorem r_Link_definedAt_31 {l : Launch} {g : px_G} {d F : Nat} {a0 : Nat} {s0 : Option Nat} {ph : px_H} {r : Option Nat} {ph' : px_H} (h : f_Link_definedAt_31 F (px_ct g) a0 s0 ph = some (r, ph')) : PW l g (d + 0) m_Link_definedAt 31 [.ref a0, px_u, px_u] [va_rf s0] ph (px_qN r ph') := by
  unfold f_Link_definedAt_31 at h
  refine px_st (lv' := [.ref a0, px_u, va_rf s0]) rfl rfl (by first | rfl | (cases s0 <;> rfl)) (by first | rfl | (cases s0 <;> rfl)) rfl (by first | rfl | (cases s0 <;> rfl)) rfl ?_
  refine px_ld rfl rfl rfl (by first | rfl | (cases s0 <;> rfl)) rfl ?_
  cases s0 with
  | none =>
    refine px_ifnnN rfl rfl ?_
    refine px_ld rfl rfl rfl rfl rfl ?_
    obtain ⟨t2, h0, h⟩ := xs_some h
    obtain ⟨fs, e1, e2⟩ := xgR_some h0
    refine px_get rfl e1 e2 rfl ?_
    obtain ⟨t3, h0, h⟩ := xs_some h
    obtain ⟨fs, e1, e2⟩ := xgR_some h0
    refine px_get rfl e1 e2 rfl ?_
    refine px_goto rfl rfl rfl ?_
    refine px_forget (n := 0) (lv' := [_, _, _]) rfl ?_
    refine px_forget (n := 2) (lv' := [_, _, _]) rfl ?_
    exact (r_Link_definedAt_47 h :)
  | some p1 =>
    refine px_ifnnR rfl rfl rfl ?_
    refine px_ld rfl rfl rfl rfl rfl ?_
    refine px_forget (n := 0) (lv' := [_, _, _]) rfl ?_
    refine px_forget (n := 2) (lv' := [_, _, _]) rfl ?_
    exact (r_Link_definedAt_47 h :)
def f_Link_definedAt_30 (F : Nat) (c : px_CT) (a0 : Nat) (ph : px_H) : Option (Option Nat × px_H) :=
  f_Link_definedAt_31 F c a0 none ph
theorem r_Link_definedAt_30 {l : Launch} {g : px_G} {d F : Nat} {a0 : Nat} {ph : px_H} {r : Option Nat} {ph' : px_H} (h : f_Link_definedAt_30 F (px_ct g) a0 ph = some (r, ph')) : PW l g (d + 0) m_Link_definedAt 30 [.ref a0, px_u, px_u] [] ph (px_qN r ph') := by
  unfold f_Link_definedAt_30 at h
  refine px_alu rfl rfl rfl ?_
  exact (r_Link_definedAt_31 h :)
def f_Link_definedAt (F : Nat) (c : px_CT) (a0 : Nat) (a1 : Int32) (ph : px_H) : Option (Option Nat × px_H) :=
  if a1 < 0 then
    f_Link_definedAt_30 F c a0 ph
  else
    (xgI ph 3 15 a0).bind fun t1 =>
    if t1 ≤ a1 then
      f_Link_definedAt_30 F c a0 ph
    else
      (xgR ph 3 9 a0).bind fun t2 =>
      (xal ph 5 t2).bind fun t3 =>
      if t3 ≤ a1 then
        f_Link_definedAt_30 F c a0 ph
      else
        (xgR ph 3 9 a0).bind fun t4 =>
        (xaN ph 5 t4 a1).bind fun t5 =>
        f_Link_definedAt_31 F c a0 t5 ph
theorem r_Link_definedAt {l : Launch} {g : px_G} {d F : Nat} {a0 : Nat} {a1 : Int32} {ph : px_H} {r : Option Nat} {ph' : px_H} (h : f_Link_definedAt F (px_ct g) a0 a1 ph = some (r, ph')) : PW l g (d + 0) m_Link_definedAt 0 [.ref a0, .int a1, px_u] [] ph (px_qN r ph') := by
  unfold f_Link_definedAt at h
  refine px_ld rfl rfl rfl rfl rfl ?_
  refine px_iflt rfl rfl rfl (fun hc => ?_) (fun hc => ?_)
  · replace h := (if_pos hc).symm.trans h
    refine px_forget (n := 1) (lv' := [_, _, _]) rfl ?_
    exact (r_Link_definedAt_30 h :)
  · replace h := (if_neg hc).symm.trans h
    refine px_ld rfl rfl rfl rfl rfl ?_
    refine px_ld rfl rfl rfl rfl rfl ?_
    obtain ⟨t1, h0, h⟩ := xs_some h
    obtain ⟨fs, e1, e2⟩ := xgI_some h0
    refine px_get rfl e1 e2 rfl ?_
    refine px_icge rfl rfl rfl (fun hc => ?_) (fun hc => ?_)
    · replace h := (if_pos hc).symm.trans h
      refine px_forget (n := 1) (lv' := [_, _, _]) rfl ?_
      exact (r_Link_definedAt_30 h :)
    · replace h := (if_neg hc).symm.trans h
      refine px_ld rfl rfl rfl rfl rfl ?_
      refine px_ld rfl rfl rfl rfl rfl ?_
      obtain ⟨t2, h0, h⟩ := xs_some h
      obtain ⟨fs, e1, e2⟩ := xgR_some h0
      refine px_get rfl e1 e2 rfl ?_
      obtain ⟨t3, h0, h⟩ := xs_some h
      obtain ⟨x, e1, e3⟩ := xal_some h0
      subst e3
      refine px_alen rfl e1 rfl rfl ?_
      refine px_icge rfl rfl rfl (fun hc => ?_) (fun hc => ?_)
      · replace h := (if_pos hc).symm.trans h
        refine px_forget (n := 1) (lv' := [_, _, _]) rfl ?_
        exact (r_Link_definedAt_30 h :)
      · replace h := (if_neg hc).symm.trans h
        refine px_ld rfl rfl rfl rfl rfl ?_
        obtain ⟨t4, h0, h⟩ := xs_some h
        obtain ⟨fs, e1, e2⟩ := xgR_some h0
        refine px_get rfl e1 e2 rfl ?_
        refine px_ld rfl rfl rfl rfl rfl ?_
        obtain ⟨t5, h0, h⟩ := xs_some h
        obtain ⟨N, f, e1, e2, e3⟩ := xaN_some h0
        refine px_aaldO rfl e1 rfl e2 e3 rfl ?_
        refine px_goto rfl rfl rfl ?_
        refine px_forget (n := 1) (lv' := [_, _, _]) rfl ?_
        exact (r_Link_definedAt_31 h :)
def f_Link_reachPart_48 (F : Nat) (c : px_CT) (ph : px_H) : Option (Unit × px_H) :=
  some ((), ph)
theorem r_Link_reachPart_48 {l : Launch} {g : px_G} {d F : Nat} {ph : px_H} {r : Unit} {ph' : px_H} (h : f_Link_reachPart_48 F (px_ct g) ph = some (r, ph')) : PW l g (d + 0) m_Link_reachPart 48 [px_u, px_u] [] ph (px_qV r ph') := by
  unfold f_Link_reachPart_48 at h
  cases h
  exact px_vret rfl rfl rfl ⟨rfl, rfl⟩
def f_Link_reachPart (F : Nat) (c : px_CT) (a0 : Nat) (a1 : Option Nat) (ph : px_H) : Option (Unit × px_H) :=
  (match a1 with
    | none => f_Link_reachPart_48 F c ph
    | some p1 => (xgI ph 8 9 p1).bind fun t2 =>
    if t2 = 0 then
      (xgI ph 3 16 a0).bind fun t3 =>
      (xgR ph 3 10 a0).bind fun t4 =>
      (xal ph 6 t4).bind fun t5 =>
      if t5 ≤ t3 then
        f_Link_reachPart_48 F c ph
      else
        (xpZ ph 8 9 p1 (nI 1)).bind fun ph6 =>
        (xgR ph6 3 10 a0).bind fun t7 =>
        (xgI ph6 3 16 a0).bind fun t8 =>
        (xsO ph6 6 8 t7 t8 (some p1)).bind fun ph9 =>
        (xgI ph9 3 16 a0).bind fun t10 =>
        (xpI ph9 3 16 a0 (t10 + (nI 1))).bind fun ph11 =>
        f_Link_reachPart_48 F c ph11
    else
      f_Link_reachPart_48 F c ph)
theorem r_Link_reachPart {l : Launch} {g : px_G} {d F : Nat} {a0 : Nat} {a1 : Option Nat} {ph : px_H} {r : Unit} {ph' : px_H} (h : f_Link_reachPart F (px_ct g) a0 a1 ph = some (r, ph')) : PW l g (d + 0) m_Link_reachPart 0 [.ref a0, va_rf a1] [] ph (px_qV r ph') := by
  unfold f_Link_reachPart at h
  refine px_ld rfl rfl rfl (by first | rfl | (cases a1 <;> rfl)) rfl ?_
  cases a1 with
  | none =>
    refine px_ifnullN rfl rfl rfl ?_
    refine px_forget (n := 0) (lv' := [_, _]) rfl ?_
    refine px_forget (n := 1) (lv' := [_, _]) rfl ?_
    exact (r_Link_reachPart_48 h :)
  | some p1 =>
    refine px_ifnullR rfl rfl ?_
    refine px_ld rfl rfl rfl rfl rfl ?_
    obtain ⟨t2, h0, h⟩ := xs_some h
    obtain ⟨fs, e1, e2⟩ := xgI_some h0
    refine px_get rfl e1 e2 rfl ?_
    refine px_ifne rfl rfl rfl (fun hc => ?_) (fun hc => ?_)
    · replace h := (if_neg hc).symm.trans h
      refine px_forget (n := 0) (lv' := [_, _]) rfl ?_
      refine px_forget (n := 1) (lv' := [_, _]) rfl ?_
      exact (r_Link_reachPart_48 h :)
    · replace h := (if_pos hc).symm.trans h
      refine px_ld rfl rfl rfl rfl rfl ?_
      obtain ⟨t3, h0, h⟩ := xs_some h
      obtain ⟨fs, e1, e2⟩ := xgI_some h0
      refine px_get rfl e1 e2 rfl ?_
      refine px_ld rfl rfl rfl rfl rfl ?_
      obtain ⟨t4, h0, h⟩ := xs_some h
      obtain ⟨fs, e1, e2⟩ := xgR_some h0
      refine px_get rfl e1 e2 rfl ?_
      obtain ⟨t5, h0, h⟩ := xs_some h
      obtain ⟨x, e1, e3⟩ := xal_some h0
      subst e3
      refine px_alen rfl e1 rfl rfl ?_
      refine px_icge rfl rfl rfl (fun hc => ?_) (fun hc => ?_)
      · replace h := (if_pos hc).symm.trans h
        refine px_forget (n := 0) (lv' := [_, _]) rfl ?_
        refine px_forget (n := 1) (lv' := [_, _]) rfl ?_
        exact (r_Link_reachPart_48 h :)
      · replace h := (if_neg hc).symm.trans h
        refine px_ld rfl rfl rfl rfl rfl ?_
        refine px_ic (k := 1) rfl rfl rfl ?_
        obtain ⟨ph6, h0, h⟩ := xs_some h
        obtain ⟨fs, e1, e2, e3, e4⟩ := xpZ_some h0
        subst e3
        refine px_put rfl e1 e2 e4 rfl ?_
        refine px_ld rfl rfl rfl rfl rfl ?_
        obtain ⟨t7, h0, h⟩ := xs_some h
        obtain ⟨fs, e1, e2⟩ := xgR_some h0
        refine px_get rfl e1 e2 rfl ?_
        refine px_ld rfl rfl rfl rfl rfl ?_
        obtain ⟨t8, h0, h⟩ := xs_some h
        obtain ⟨fs, e1, e2⟩ := xgI_some h0
        refine px_get rfl e1 e2 rfl ?_
        refine px_ld rfl rfl rfl rfl rfl ?_
        obtain ⟨ph9, h0, h⟩ := xs_some h
        obtain ⟨N, f, e1, e2, e3, e4⟩ := xsO_some h0
        subst e3
        refine px_aastO (o := (some p1)) rfl e1 rfl e4 rfl e2 rfl ?_
        refine px_ld rfl rfl rfl rfl rfl ?_
        refine px_alu rfl rfl rfl ?_
        obtain ⟨t10, h0, h⟩ := xs_some h
        obtain ⟨fs, e1, e2⟩ := xgI_some h0
        refine px_get rfl e1 e2 rfl ?_
        refine px_ic (k := 1) rfl rfl rfl ?_
        refine px_alu rfl rfl rfl ?_
        obtain ⟨ph11, h0, h⟩ := xs_some h
        obtain ⟨fs, e1, e2, e3⟩ := xpI_some h0
        subst e3
        refine px_put rfl e1 e2 trivial rfl ?_
        refine px_forget (n := 0) (lv' := [_, _]) rfl ?_
        refine px_forget (n := 1) (lv' := [_, _]) rfl ?_
        exact (r_Link_reachPart_48 h :)
def f_Link_reachName_21 (F : Nat) (c : px_CT) (ph : px_H) : Option (Unit × px_H) :=
  some ((), ph)
theorem r_Link_reachName_21 {l : Launch} {g : px_G} {d F : Nat} {ph : px_H} {r : Unit} {ph' : px_H} (h : f_Link_reachName_21 F (px_ct g) ph = some (r, ph')) : PW l g (d + 1) m_Link_reachName 21 [px_u, px_u] [] ph (px_qV r ph') := by
  unfold f_Link_reachName_21 at h
  cases h
  exact px_vret rfl rfl rfl ⟨rfl, rfl⟩
def f_Link_reachName (F : Nat) (c : px_CT) (a0 : Nat) (a1 : Option Nat) (ph : px_H) : Option (Unit × px_H) :=
  (a1).bind fun p1 =>
  (xpZ ph 5 13 p1 (nI 1)).bind fun ph2 =>
  (xgI ph2 5 5 p1).bind fun t3 =>
  if t3 = (nI 1) then
    (xgN ph2 5 6 p1).bind fun t4 =>
    (xo ph2 3 a0).bind fun _ =>
    xb (f_Link_reachPart F c a0 t4 ph2) fun _ ph5 =>
    f_Link_reachName_21 F c ph5
  else
    f_Link_reachName_21 F c ph2
theorem r_Link_reachName {l : Launch} {g : px_G} {d F : Nat} {a0 : Nat} {a1 : Option Nat} {ph : px_H} {r : Unit} {ph' : px_H} (h : f_Link_reachName F (px_ct g) a0 a1 ph = some (r, ph')) : PW l g (d + 1) m_Link_reachName 0 [.ref a0, va_rf a1] [] ph (px_qV r ph') := by
  unfold f_Link_reachName at h
  refine px_ld rfl rfl rfl (by first | rfl | (cases a1 <;> rfl)) rfl ?_
  refine px_ic (k := 1) rfl rfl rfl ?_
  obtain ⟨p1, h0, h⟩ := xs_some h
  revert h
  subst h0
  intro h
  obtain ⟨ph2, h0, h⟩ := xs_some h
  obtain ⟨fs, e1, e2, e3, e4⟩ := xpZ_some h0
  subst e3
  refine px_put rfl e1 e2 e4 rfl ?_
  refine px_ld rfl rfl rfl rfl rfl ?_
  obtain ⟨t3, h0, h⟩ := xs_some h
  obtain ⟨fs, e1, e2⟩ := xgI_some h0
  refine px_get rfl e1 e2 rfl ?_
  refine px_ic (k := 1) rfl rfl rfl ?_
  refine px_icne rfl rfl rfl (fun hc => ?_) (fun hc => ?_)
  · replace h := (if_neg hc).symm.trans h
    refine px_forget (n := 0) (lv' := [_, _]) rfl ?_
    refine px_forget (n := 1) (lv' := [_, _]) rfl ?_
    exact (r_Link_reachName_21 h :)
  · replace h := (if_pos hc).symm.trans h
    refine px_ld rfl rfl rfl rfl rfl ?_
    refine px_ld rfl rfl rfl rfl rfl ?_
    obtain ⟨t4, h0, h⟩ := xs_some h
    obtain ⟨fs, e1, e2⟩ := xgN_some h0
    refine px_get rfl e1 e2 rfl ?_
    obtain ⟨fs, h0, h⟩ := xs_some h
    have e1 := xo_some h0
    obtain ⟨u0, ph5, h0, h⟩ := xb_some h
    refine px_cV1 (lv0 := [.ref a0, va_rf t4]) rfl rfl e1 rfl rfl rfl (by first | rfl | (cases t4 <;> rfl)) rfl (by first | rfl | (cases t4 <;> rfl)) rfl (r_Link_reachPart h0 :) (fun _ _ q => nomatch q.2) (fun r ph' q => ?_)
    obtain ⟨rfl, q⟩ := q
    cases q
    refine px_forget (n := 0) (lv' := [_, _]) rfl ?_
    refine px_forget (n := 1) (lv' := [_, _]) rfl ?_
    exact (r_Link_reachName_21 h :)
def f_Link_object_44 (F : Nat) (c : px_CT) (s0 : Option Nat) (ph : px_H) : Option (Option Nat × px_H) :=
  some (s0, ph)
theorem r_Link_object_44 {l : Launch} {g : px_G} {d F : Nat} {s0 : Option Nat} {ph : px_H} {r : Option Nat} {ph' : px_H} (h : f_Link_object_44 F (px_ct g) s0 ph = some (r, ph')) : PW l g (d + 0) m_Link_object 44 [px_u, px_u, px_u] [va_rf s0] ph (px_qN r ph') := by
  unfold f_Link_object_44 at h
  cases h
  exact px_aret rfl rfl (Or.inl ⟨_, rfl⟩) (by first | rfl | (cases s0 <;> rfl) | (cases r <;> rfl) | (cases s0 <;> cases r <;> rfl)) rfl ⟨rfl, rfl⟩
def f_Link_object_31 (F : Nat) (c : px_CT) (a0 : Nat) (s0 : Option Nat) (ph : px_H) : Option (Option Nat × px_H) :=
  (match s0 with
    | none => (xgR ph 3 7 a0).bind fun t2 =>
    f_Link_object_44 F c (some t2) ph
    | some p1 => f_Link_object_44 F c (some p1) ph)
theorem r_Link_object_31 {l : Launch} {g : px_G} {d F : Nat} {a0 : Nat} {s0 : Option Nat} {ph : px_H} {r : Option Nat} {ph' : px_H} (h : f_Link_object_31 F (px_ct g) a0 s0 ph = some (r, ph')) : PW l g (d + 0) m_Link_object 31 [.ref a0, px_u, px_u] [va_rf s0] ph (px_qN r ph') := by
  unfold f_Link_object_31 at h
  refine px_st (lv' := [.ref a0, px_u, va_rf s0]) rfl rfl (by first | rfl | (cases s0 <;> rfl)) (by first | rfl | (cases s0 <;> rfl)) rfl (by first | rfl | (cases s0 <;> rfl)) rfl ?_
  refine px_ld rfl rfl rfl (by first | rfl | (cases s0 <;> rfl)) rfl ?_
  cases s0 with
  | none =>
    refine px_ifnnN rfl rfl ?_
    refine px_ld rfl rfl rfl rfl rfl ?_
    obtain ⟨t2, h0, h⟩ := xs_some h
    obtain ⟨fs, e1, e2⟩ := xgR_some h0
    refine px_get rfl e1 e2 rfl ?_
    refine px_goto rfl rfl rfl ?_
    refine px_forget (n := 0) (lv' := [_, _, _]) rfl ?_
    refine px_forget (n := 2) (lv' := [_, _, _]) rfl ?_
    exact (r_Link_object_44 h :)
  | some p1 =>
    refine px_ifnnR rfl rfl rfl ?_
    refine px_ld rfl rfl rfl rfl rfl ?_
    refine px_forget (n := 0) (lv' := [_, _, _]) rfl ?_
    refine px_forget (n := 2) (lv' := [_, _, _]) rfl ?_
    exact (r_Link_object_44 h :)
def f_Link_object_30 (F : Nat) (c : px_CT) (a0 : Nat) (ph : px_H) : Option (Option Nat × px_H) :=
  f_Link_object_31 F c a0 none ph
theorem r_Link_object_30 {l : Launch} {g : px_G} {d F : Nat} {a0 : Nat} {ph : px_H} {r : Option Nat} {ph' : px_H} (h : f_Link_object_30 F (px_ct g) a0 ph = some (r, ph')) : PW l g (d + 0) m_Link_object 30 [.ref a0, px_u, px_u] [] ph (px_qN r ph') := by
  unfold f_Link_object_30 at h
  refine px_alu rfl rfl rfl ?_
  exact (r_Link_object_31 h :)
def f_Link_object (F : Nat) (c : px_CT) (a0 : Nat) (a1 : Int32) (ph : px_H) : Option (Option Nat × px_H) :=
  if a1 < 0 then
    f_Link_object_30 F c a0 ph
  else
    (xgI ph 3 14 a0).bind fun t1 =>
    if t1 ≤ a1 then
      f_Link_object_30 F c a0 ph
    else
      (xgR ph 3 6 a0).bind fun t2 =>
      (xal ph 4 t2).bind fun t3 =>
      if t3 ≤ a1 then
        f_Link_object_30 F c a0 ph
      else
        (xgR ph 3 6 a0).bind fun t4 =>
        (xaN ph 4 t4 a1).bind fun t5 =>
        f_Link_object_31 F c a0 t5 ph
theorem r_Link_object {l : Launch} {g : px_G} {d F : Nat} {a0 : Nat} {a1 : Int32} {ph : px_H} {r : Option Nat} {ph' : px_H} (h : f_Link_object F (px_ct g) a0 a1 ph = some (r, ph')) : PW l g (d + 0) m_Link_object 0 [.ref a0, .int a1, px_u] [] ph (px_qN r ph') := by
  unfold f_Link_object at h
  refine px_ld rfl rfl rfl rfl rfl ?_
  refine px_iflt rfl rfl rfl (fun hc => ?_) (fun hc => ?_)
  · replace h := (if_pos hc).symm.trans h
    refine px_forget (n := 1) (lv' := [_, _, _]) rfl ?_
    exact (r_Link_object_30 h :)
  · replace h := (if_neg hc).symm.trans h
    refine px_ld rfl rfl rfl rfl rfl ?_
    refine px_ld rfl rfl rfl rfl rfl ?_
    obtain ⟨t1, h0, h⟩ := xs_some h
    obtain ⟨fs, e1, e2⟩ := xgI_some h0
    refine px_get rfl e1 e2 rfl ?_
    refine px_icge rfl rfl rfl (fun hc => ?_) (fun hc => ?_)
    · replace h := (if_pos hc).symm.trans h
      refine px_forget (n := 1) (lv' := [_, _, _]) rfl ?_
      exact (r_Link_object_30 h :)
    · replace h := (if_neg hc).symm.trans h
      refine px_ld rfl rfl rfl rfl rfl ?_
      refine px_ld rfl rfl rfl rfl rfl ?_
      obtain ⟨t2, h0, h⟩ := xs_some h
      obtain ⟨fs, e1, e2⟩ := xgR_some h0
      refine px_get rfl e1 e2 rfl ?_
      obtain ⟨t3, h0, h⟩ := xs_some h
      obtain ⟨x, e1, e3⟩ := xal_some h0
      subst e3
      refine px_alen rfl e1 rfl rfl ?_
      refine px_icge rfl rfl rfl (fun hc => ?_) (fun hc => ?_)
      · replace h := (if_pos hc).symm.trans h
        refine px_forget (n := 1) (lv' := [_, _, _]) rfl ?_
        exact (r_Link_object_30 h :)
      · replace h := (if_neg hc).symm.trans h
        refine px_ld rfl rfl rfl rfl rfl ?_
        obtain ⟨t4, h0, h⟩ := xs_some h
        obtain ⟨fs, e1, e2⟩ := xgR_some h0
        refine px_get rfl e1 e2 rfl ?_
        refine px_ld rfl rfl rfl rfl rfl ?_
        obtain ⟨t5, h0, h⟩ := xs_some h
        obtain ⟨N, f, e1, e2, e3⟩ := xaN_some h0
        refine px_aaldO rfl e1 rfl e2 e3 rfl ?_
        refine px_goto rfl rfl rfl ?_
        refine px_forget (n := 1) (lv' := [_, _, _]) rfl ?_
        exact (r_Link_object_31 h :)
def f_ObjectFile_targetOf_34 (F : Nat) (c : px_CT) (s0 : Int32) (ph : px_H) : Option (Int32 × px_H) :=
  some (s0, ph)
theorem r_ObjectFile_targetOf_34 {l : Launch} {g : px_G} {d F : Nat} {s0 : Int32} {ph : px_H} {r : Int32} {ph' : px_H} (h : f_ObjectFile_targetOf_34 F (px_ct g) s0 ph = some (r, ph')) : PW l g (d + 2) m_ObjectFile_targetOf 34 [px_u, px_u, px_u, px_u] [.int s0] ph (px_qI r ph') := by
  unfold f_ObjectFile_targetOf_34 at h
  cases h
  exact px_iret rfl (Or.inl rfl) rfl ⟨rfl, rfl⟩
def f_ObjectFile_targetOf (F : Nat) (c : px_CT) (a0 : Nat) (a1 : Int32) (ph : px_H) : Option (Int32 × px_H) :=
  (xo ph 7 a0).bind fun _ =>
  xb (f_ObjectFile_typeOf F c a0 a1 ph) fun t1 ph2 =>
  if t1 = ((4 : Int64)) then
    (xo ph2 7 a0).bind fun _ =>
    xb (f_ObjectFile_infoOf F c a0 a1 ph2) fun t3 ph4 =>
    (xo ph4 7 a0).bind fun _ =>
    xb (f_ObjectFile_groupOf F c a0 t3 ph4) fun t5 ph6 =>
    if 0 ≤ t5 then
      f_ObjectFile_targetOf_34 F c t3.toInt32 ph6
    else
      f_ObjectFile_targetOf_34 F c (Int32.ofInt (-1)) ph6
  else
    some (Int32.ofInt (-1), ph2)
theorem r_ObjectFile_targetOf {l : Launch} {g : px_G} {d F : Nat} {a0 : Nat} {a1 : Int32} {ph : px_H} {r : Int32} {ph' : px_H} (h : f_ObjectFile_targetOf F (px_ct g) a0 a1 ph = some (r, ph')) : PW l g (d + 2) m_ObjectFile_targetOf 0 [.ref a0, .int a1, px_u, px_u] [] ph (px_qI r ph') := by
  unfold f_ObjectFile_targetOf at h
  refine px_ld rfl rfl rfl rfl rfl ?_
  refine px_ld rfl rfl rfl rfl rfl ?_
  obtain ⟨fs, h0, h⟩ := xs_some h
  have e1 := xo_some h0
  obtain ⟨t1, ph2, h0, h⟩ := xb_some h
  refine px_cV1 rfl rfl e1 rfl rfl rfl rfl rfl rfl rfl (r_ObjectFile_typeOf h0 :) (fun _ _ q => nomatch q.2) (fun r ph' q => ?_)
  obtain ⟨rfl, q⟩ := q
  cases q
  refine px_ldc2 rfl rfl rfl ?_
  refine px_alu rfl rfl rfl ?_
  refine px_ifeq rfl rfl rfl (fun hc => ?_) (fun hc => ?_)
  · replace h := (if_pos ((lg_cmp_eq _ _).mp hc)).symm.trans h
    refine px_ld rfl rfl rfl rfl rfl ?_
    refine px_ld rfl rfl rfl rfl rfl ?_
    obtain ⟨fs, h0, h⟩ := xs_some h
    have e1 := xo_some h0
    obtain ⟨t3, ph4, h0, h⟩ := xb_some h
    refine px_cV1 rfl rfl e1 rfl rfl rfl rfl rfl rfl rfl (r_ObjectFile_infoOf h0 :) (fun _ _ q => nomatch q.2) (fun r ph' q => ?_)
    obtain ⟨rfl, q⟩ := q
    cases q
    refine px_st (lv' := [_, _, _, _]) rfl rfl rfl rfl rfl rfl rfl ?_
    refine px_ld rfl rfl rfl rfl rfl ?_
    refine px_ld rfl rfl rfl rfl rfl ?_
    obtain ⟨fs, h0, h⟩ := xs_some h
    have e1 := xo_some h0
    obtain ⟨t5, ph6, h0, h⟩ := xb_some h
    refine px_cV1 rfl rfl e1 rfl rfl rfl rfl rfl rfl rfl (r_ObjectFile_groupOf h0 :) (fun _ _ q => nomatch q.2) (fun r ph' q => ?_)
    obtain ⟨rfl, q⟩ := q
    cases q
    refine px_ifge rfl rfl rfl (fun hc => ?_) (fun hc => ?_)
    · replace h := (if_pos hc).symm.trans h
      refine px_ld rfl rfl rfl rfl rfl ?_
      refine px_alu rfl rfl rfl ?_
      refine px_forget (n := 0) (lv' := [_, _, _, _]) rfl ?_
      refine px_forget (n := 1) (lv' := [_, _, _, _]) rfl ?_
      refine px_forget (n := 2) (lv' := [_, _, _, _]) rfl ?_
      exact (r_ObjectFile_targetOf_34 h :)
    · replace h := (if_neg hc).symm.trans h
      refine px_alu rfl rfl rfl ?_
      refine px_goto rfl rfl rfl ?_
      refine px_forget (n := 0) (lv' := [_, _, _, _]) rfl ?_
      refine px_forget (n := 1) (lv' := [_, _, _, _]) rfl ?_
      refine px_forget (n := 2) (lv' := [_, _, _, _]) rfl ?_
      exact (r_ObjectFile_targetOf_34 h :)
  · replace h := (if_neg (fun q => hc ((lg_cmp_eq _ _).mpr q))).symm.trans h
    refine px_alu rfl rfl rfl ?_
    cases h
    exact px_iret rfl (Or.inl rfl) rfl ⟨rfl, rfl⟩
def f_ObjectFile_sitesOf (F : Nat) (c : px_CT) (a0 : Nat) (a1 : Int32) (ph : px_H) : Option (Int32 × px_H) :=
  (xo ph 7 a0).bind fun _ =>
  xb (f_ObjectFile_lengthOf F c a0 a1 ph) fun t1 ph2 =>
  some ((t1 / ((24 : Int64))).toInt32, ph2)
theorem r_ObjectFile_sitesOf {l : Launch} {g : px_G} {d F : Nat} {a0 : Nat} {a1 : Int32} {ph : px_H} {r : Int32} {ph' : px_H} (h : f_ObjectFile_sitesOf F (px_ct g) a0 a1 ph = some (r, ph')) : PW l g (d + 2) m_ObjectFile_sitesOf 0 [.ref a0, .int a1] [] ph (px_qI r ph') := by
  unfold f_ObjectFile_sitesOf at h
  refine px_ld rfl rfl rfl rfl rfl ?_
  refine px_ld rfl rfl rfl rfl rfl ?_
  obtain ⟨fs, h0, h⟩ := xs_some h
  have e1 := xo_some h0
  obtain ⟨t1, ph2, h0, h⟩ := xb_some h
  refine px_cV1 rfl rfl e1 rfl rfl rfl rfl rfl rfl rfl (r_ObjectFile_lengthOf h0 :) (fun _ _ q => nomatch q.2) (fun r ph' q => ?_)
  obtain ⟨rfl, q⟩ := q
  cases q
  refine px_ldc2 rfl rfl rfl ?_
  refine px_ldiv rfl (by decide) rfl ?_
  refine px_alu rfl rfl rfl ?_
  cases h
  exact px_iret rfl (Or.inl rfl) rfl ⟨rfl, rfl⟩
def f_Link_partOf_107 (F : Nat) (c : px_CT) (s0 : Option Nat) (ph : px_H) : Option (Option Nat × px_H) :=
  some (s0, ph)
theorem r_Link_partOf_107 {l : Launch} {g : px_G} {d F : Nat} {s0 : Option Nat} {ph : px_H} {r : Option Nat} {ph' : px_H} (h : f_Link_partOf_107 F (px_ct g) s0 ph = some (r, ph')) : PW l g (d + 1) m_Link_partOf 107 [px_u, px_u, px_u, px_u, px_u, px_u, px_u, px_u] [va_rf s0] ph (px_qN r ph') := by
  unfold f_Link_partOf_107 at h
  cases h
  exact px_aret rfl rfl (Or.inl ⟨_, rfl⟩) (by first | rfl | (cases s0 <;> rfl) | (cases r <;> rfl) | (cases s0 <;> cases r <;> rfl)) rfl ⟨rfl, rfl⟩
def f_Link_partOf_80 (F : Nat) (c : px_CT) (ph : px_H) : Option (Option Nat × px_H) :=
  some (none, ph)
theorem r_Link_partOf_80 {l : Launch} {g : px_G} {d F : Nat} {ph : px_H} {r : Option Nat} {ph' : px_H} (h : f_Link_partOf_80 F (px_ct g) ph = some (r, ph')) : PW l g (d + 1) m_Link_partOf 80 [px_u, px_u, px_u, px_u, px_u, px_u, px_u, px_u] [] ph (px_qN r ph') := by
  unfold f_Link_partOf_80 at h
  refine px_alu rfl rfl rfl ?_
  cases h
  exact px_aret rfl rfl (Or.inl ⟨_, rfl⟩) (by first | rfl | (cases none <;> rfl) | (cases r <;> rfl) | (cases none <;> cases r <;> rfl)) rfl ⟨rfl, rfl⟩
def f_Link_partOf_62 (F : Nat) (c : px_CT) (a0 : Nat) (a1 : Int32) (s0 : Int64) (ph : px_H) : Option (Option Nat × px_H) :=
  if s0 = (lN 0) then
    f_Link_partOf_80 F c ph
  else
    if s0 < ((24 : Int64)) then
      (xo ph 3 a0).bind fun _ =>
      xb (f_Link_part F c a0 a1 s0.toInt32 ph) fun t1 ph2 =>
      (t1).bind fun p3 =>
      (xgI ph2 8 8 p3).bind fun t4 =>
      if t4 = (nI 1) then
        f_Link_partOf_107 F c (some p3) ph2
      else
        f_Link_partOf_107 F c none ph2
    else
      f_Link_partOf_80 F c ph
theorem r_Link_partOf_62 {l : Launch} {g : px_G} {d F : Nat} {a0 : Nat} {a1 : Int32} {s0 : Int64} {ph : px_H} {r : Option Nat} {ph' : px_H} (h : f_Link_partOf_62 F (px_ct g) a0 a1 s0 ph = some (r, ph')) : PW l g (d + 1) m_Link_partOf 62 [.ref a0, .int a1, px_u, px_u, px_u, px_u, px_u, px_u] [.long s0] ph (px_qN r ph') := by
  unfold f_Link_partOf_62 at h
  refine px_st (lv' := [_, _, _, _, _, _, _, _]) rfl rfl rfl rfl rfl rfl rfl ?_
  refine px_ld rfl rfl rfl rfl rfl ?_
  refine px_alu rfl rfl rfl ?_
  refine px_alu rfl rfl rfl ?_
  refine px_ifeq rfl (by decide) rfl (fun hc => ?_) (fun hc => ?_)
  · replace h := (if_pos ((lg_cmp_eq _ _).mp hc)).symm.trans h
    refine px_forget (n := 0) (lv' := [_, _, _, _, _, _, _, _]) rfl ?_
    refine px_forget (n := 1) (lv' := [_, _, _, _, _, _, _, _]) rfl ?_
    refine px_forget (n := 5) (lv' := [_, _, _, _, _, _, _, _]) rfl ?_
    exact (r_Link_partOf_80 h :)
  · replace h := (if_neg (fun q => hc ((lg_cmp_eq _ _).mpr q))).symm.trans h
    refine px_ld rfl rfl rfl rfl rfl ?_
    refine px_ldc2 rfl rfl rfl ?_
    refine px_alu rfl rfl rfl ?_
    refine px_iflt rfl (by decide) rfl (fun hc => ?_) (fun hc => ?_)
    · replace h := (if_pos ((lg_cmp_lt _ _).mp hc)).symm.trans h
      refine px_ld rfl rfl rfl rfl rfl ?_
      refine px_ld rfl rfl rfl rfl rfl ?_
      refine px_ld rfl rfl rfl rfl rfl ?_
      refine px_alu rfl rfl rfl ?_
      obtain ⟨fs, h0, h⟩ := xs_some h
      have e1 := xo_some h0
      obtain ⟨t1, ph2, h0, h⟩ := xb_some h
      refine px_cV2 rfl rfl e1 rfl rfl rfl rfl rfl rfl rfl (r_Link_part h0 :) (fun _ _ q => nomatch q.2) (fun r ph' q => ?_)
      obtain ⟨rfl, q⟩ := q
      cases q
      refine px_st (lv' := [.ref a0, .int a1, px_u, px_u, px_u, .long s0, px_u, va_rf t1]) rfl rfl (by first | rfl | (cases t1 <;> rfl)) (by first | rfl | (cases t1 <;> rfl)) rfl (by first | rfl | (cases t1 <;> rfl)) rfl ?_
      refine px_ld rfl rfl rfl (by first | rfl | (cases t1 <;> rfl)) rfl ?_
      obtain ⟨p3, h0, h⟩ := xs_some h
      revert h
      subst h0
      intro h
      obtain ⟨t4, h0, h⟩ := xs_some h
      obtain ⟨fs, e1, e2⟩ := xgI_some h0
      refine px_get rfl e1 e2 rfl ?_
      refine px_ic (k := 1) rfl rfl rfl ?_
      refine px_icne rfl (by decide) rfl (fun hc => ?_) (fun hc => ?_)
      · replace h := (if_neg hc).symm.trans h
        refine px_alu rfl rfl rfl ?_
        refine px_forget (n := 0) (lv' := [_, _, _, _, _, _, _, _]) rfl ?_
        refine px_forget (n := 1) (lv' := [_, _, _, _, _, _, _, _]) rfl ?_
        refine px_forget (n := 5) (lv' := [_, _, _, _, _, _, _, _]) rfl ?_
        refine px_forget (n := 7) (lv' := [_, _, _, _, _, _, _, _]) rfl ?_
        exact (r_Link_partOf_107 h :)
      · replace h := (if_pos hc).symm.trans h
        refine px_ld rfl rfl rfl rfl rfl ?_
        refine px_goto rfl (by decide) rfl ?_
        refine px_forget (n := 0) (lv' := [_, _, _, _, _, _, _, _]) rfl ?_
        refine px_forget (n := 1) (lv' := [_, _, _, _, _, _, _, _]) rfl ?_
        refine px_forget (n := 5) (lv' := [_, _, _, _, _, _, _, _]) rfl ?_
        refine px_forget (n := 7) (lv' := [_, _, _, _, _, _, _, _]) rfl ?_
        exact (r_Link_partOf_107 h :)
    · replace h := (if_neg (fun q => hc ((lg_cmp_lt _ _).mpr q))).symm.trans h
      refine px_forget (n := 0) (lv' := [_, _, _, _, _, _, _, _]) rfl ?_
      refine px_forget (n := 1) (lv' := [_, _, _, _, _, _, _, _]) rfl ?_
      refine px_forget (n := 5) (lv' := [_, _, _, _, _, _, _, _]) rfl ?_
      exact (r_Link_partOf_80 h :)
def f_Link_partOf_27 (F : Nat) (c : px_CT) (s0 : Option Nat) (ph : px_H) : Option (Option Nat × px_H) :=
  some (s0, ph)
theorem r_Link_partOf_27 {l : Launch} {g : px_G} {d F : Nat} {s0 : Option Nat} {ph : px_H} {r : Option Nat} {ph' : px_H} (h : f_Link_partOf_27 F (px_ct g) s0 ph = some (r, ph')) : PW l g (d + 1) m_Link_partOf 27 [px_u, px_u, px_u, px_u, px_u, px_u, px_u, px_u] [va_rf s0] ph (px_qN r ph') := by
  unfold f_Link_partOf_27 at h
  cases h
  exact px_aret rfl rfl (Or.inl ⟨_, rfl⟩) (by first | rfl | (cases s0 <;> rfl) | (cases r <;> rfl) | (cases s0 <;> cases r <;> rfl)) rfl ⟨rfl, rfl⟩
def f_Link_partOf (F : Nat) (c : px_CT) (a0 : Nat) (a1 : Int32) (a2 : Int32) (ph : px_H) : Option (Option Nat × px_H) :=
  (xo ph 3 a0).bind fun _ =>
  xb (f_Link_nameOf F c a0 a1 a2 ph) fun t1 ph2 =>
  (match t1 with
    | none => (xo ph2 3 a0).bind fun _ =>
    xb (f_Link_object F c a0 a1 ph2) fun t4 ph5 =>
    if a2 = 0 then
      f_Link_partOf_62 F c a0 a1 (lN 0) ph5
    else
      (t4).bind fun p6 =>
      (xgI ph5 7 10 p6).bind fun t7 =>
      (xo ph5 7 p6).bind fun _ =>
      xb (f_ObjectFile_num F c p6 ((t7 + ((nI 24) * a2)) + (nI 6)) (nI 2) ph5) fun t8 ph9 =>
      f_Link_partOf_62 F c a0 a1 t8 ph9
    | some p3 => (xgI ph2 5 5 p3).bind fun t10 =>
    if t10 = (nI 1) then
      (xgN ph2 5 6 p3).bind fun t11 =>
      f_Link_partOf_27 F c t11 ph2
    else
      f_Link_partOf_27 F c none ph2)
theorem r_Link_partOf {l : Launch} {g : px_G} {d F : Nat} {a0 : Nat} {a1 : Int32} {a2 : Int32} {ph : px_H} {r : Option Nat} {ph' : px_H} (h : f_Link_partOf F (px_ct g) a0 a1 a2 ph = some (r, ph')) : PW l g (d + 1) m_Link_partOf 0 [.ref a0, .int a1, .int a2, px_u, px_u, px_u, px_u, px_u] [] ph (px_qN r ph') := by
  unfold f_Link_partOf at h
  refine px_ld rfl rfl rfl rfl rfl ?_
  refine px_ld rfl rfl rfl rfl rfl ?_
  refine px_ld rfl rfl rfl rfl rfl ?_
  obtain ⟨fs, h0, h⟩ := xs_some h
  have e1 := xo_some h0
  obtain ⟨t1, ph2, h0, h⟩ := xb_some h
  refine px_cV2 rfl rfl e1 rfl rfl rfl rfl rfl rfl rfl (r_Link_nameOf h0 :) (fun _ _ q => nomatch q.2) (fun r ph' q => ?_)
  obtain ⟨rfl, q⟩ := q
  cases q
  refine px_st (lv' := [.ref a0, .int a1, .int a2, va_rf t1, px_u, px_u, px_u, px_u]) rfl rfl (by first | rfl | (cases t1 <;> rfl)) (by first | rfl | (cases t1 <;> rfl)) rfl (by first | rfl | (cases t1 <;> rfl)) rfl ?_
  refine px_ld rfl rfl rfl (by first | rfl | (cases t1 <;> rfl)) rfl ?_
  cases t1 with
  | none =>
    refine px_ifnullN rfl (by decide) rfl ?_
    refine px_ld rfl rfl rfl rfl rfl ?_
    refine px_ld rfl rfl rfl rfl rfl ?_
    obtain ⟨fs, h0, h⟩ := xs_some h
    have e1 := xo_some h0
    obtain ⟨t4, ph5, h0, h⟩ := xb_some h
    refine px_cV1 rfl rfl e1 rfl rfl rfl rfl rfl rfl rfl (r_Link_object h0 :) (fun _ _ q => nomatch q.2) (fun r ph' q => ?_)
    obtain ⟨rfl, q⟩ := q
    cases q
    refine px_st (lv' := [.ref a0, .int a1, .int a2, va_rf none, va_rf t4, px_u, px_u, px_u]) rfl rfl (by first | rfl | (cases t4 <;> rfl)) (by first | rfl | (cases t4 <;> rfl)) (by first | rfl | (cases none <;> rfl)) (by first | rfl | (cases t4 <;> rfl)) rfl ?_
    refine px_ld rfl rfl rfl rfl rfl ?_
    refine px_ifne rfl (by decide) rfl (fun hc => ?_) (fun hc => ?_)
    · replace h := (if_neg hc).symm.trans h
      refine px_ld rfl rfl rfl (by first | rfl | (cases t4 <;> rfl)) rfl ?_
      refine px_ld rfl rfl rfl (by first | rfl | (cases t4 <;> rfl)) rfl ?_
      obtain ⟨p6, h0, h⟩ := xs_some h
      revert h
      subst h0
      intro h
      obtain ⟨t7, h0, h⟩ := xs_some h
      obtain ⟨fs, e1, e2⟩ := xgI_some h0
      refine px_get rfl e1 e2 rfl ?_
      refine px_ic (k := 24) rfl rfl rfl ?_
      refine px_ld rfl rfl rfl rfl rfl ?_
      refine px_alu rfl rfl rfl ?_
      refine px_alu rfl rfl rfl ?_
      refine px_ic (k := 6) rfl rfl rfl ?_
      refine px_alu rfl rfl rfl ?_
      refine px_ic (k := 2) rfl rfl rfl ?_
      obtain ⟨fs, h0, h⟩ := xs_some h
      have e1 := xo_some h0
      obtain ⟨t8, ph9, h0, h⟩ := xb_some h
      refine px_cV2 rfl rfl e1 rfl rfl rfl rfl rfl rfl rfl (r_ObjectFile_num h0 :) (fun _ _ q => nomatch q.2) (fun r ph' q => ?_)
      obtain ⟨rfl, q⟩ := q
      cases q
      refine px_forget (n := 2) (lv' := [_, _, _, _, _, _, _, _]) rfl ?_
      refine px_forget (n := 3) (lv' := [_, _, _, _, _, _, _, _]) rfl ?_
      refine px_forget (n := 4) (lv' := [_, _, _, _, _, _, _, _]) rfl ?_
      exact (r_Link_partOf_62 h :)
    · replace h := (if_pos hc).symm.trans h
      refine px_alu rfl rfl rfl ?_
      refine px_goto rfl (by decide) rfl ?_
      refine px_forget (n := 2) (lv' := [_, _, _, _, _, _, _, _]) rfl ?_
      refine px_forget (n := 3) (lv' := [_, _, _, _, _, _, _, _]) rfl ?_
      refine px_forget (n := 4) (lv' := [_, _, _, _, _, _, _, _]) rfl ?_
      exact (r_Link_partOf_62 h :)
  | some p3 =>
    refine px_ifnullR rfl rfl ?_
    refine px_ld rfl rfl rfl rfl rfl ?_
    obtain ⟨t10, h0, h⟩ := xs_some h
    obtain ⟨fs, e1, e2⟩ := xgI_some h0
    refine px_get rfl e1 e2 rfl ?_
    refine px_ic (k := 1) rfl rfl rfl ?_
    refine px_icne rfl (by decide) rfl (fun hc => ?_) (fun hc => ?_)
    · replace h := (if_neg hc).symm.trans h
      refine px_alu rfl rfl rfl ?_
      refine px_forget (n := 0) (lv' := [_, _, _, _, _, _, _, _]) rfl ?_
      refine px_forget (n := 1) (lv' := [_, _, _, _, _, _, _, _]) rfl ?_
      refine px_forget (n := 2) (lv' := [_, _, _, _, _, _, _, _]) rfl ?_
      refine px_forget (n := 3) (lv' := [_, _, _, _, _, _, _, _]) rfl ?_
      exact (r_Link_partOf_27 h :)
    · replace h := (if_pos hc).symm.trans h
      refine px_ld rfl rfl rfl rfl rfl ?_
      obtain ⟨t11, h0, h⟩ := xs_some h
      obtain ⟨fs, e1, e2⟩ := xgN_some h0
      refine px_get rfl e1 e2 rfl ?_
      refine px_goto rfl (by decide) rfl ?_
      refine px_forget (n := 0) (lv' := [_, _, _, _, _, _, _, _]) rfl ?_
      refine px_forget (n := 1) (lv' := [_, _, _, _, _, _, _, _]) rfl ?_
      refine px_forget (n := 2) (lv' := [_, _, _, _, _, _, _, _]) rfl ?_
      refine px_forget (n := 3) (lv' := [_, _, _, _, _, _, _, _]) rfl ?_
      exact (r_Link_partOf_27 h :)
def f_Link_reachSymbol_29 (F : Nat) (c : px_CT) (ph : px_H) : Option (Unit × px_H) :=
  some ((), ph)
theorem r_Link_reachSymbol_29 {l : Launch} {g : px_G} {d F : Nat} {ph : px_H} {r : Unit} {ph' : px_H} (h : f_Link_reachSymbol_29 F (px_ct g) ph = some (r, ph')) : PW l g (d + 2) m_Link_reachSymbol 29 [px_u, px_u, px_u, px_u] [] ph (px_qV r ph') := by
  unfold f_Link_reachSymbol_29 at h
  cases h
  exact px_vret rfl rfl rfl ⟨rfl, rfl⟩
def f_Link_reachSymbol (F : Nat) (c : px_CT) (a0 : Nat) (a1 : Int32) (a2 : Int32) (ph : px_H) : Option (Unit × px_H) :=
  (xo ph 3 a0).bind fun _ =>
  xb (f_Link_nameOf F c a0 a1 a2 ph) fun t1 ph2 =>
  (match t1 with
    | none => (xo ph2 3 a0).bind fun _ =>
    xb (f_Link_partOf F c a0 a1 a2 ph2) fun t4 ph5 =>
    (xo ph5 3 a0).bind fun _ =>
    xb (f_Link_reachPart F c a0 t4 ph5) fun _ ph6 =>
    f_Link_reachSymbol_29 F c ph6
    | some p3 => (xo ph2 3 a0).bind fun _ =>
    xb (f_Link_reachName F c a0 (some p3) ph2) fun _ ph7 =>
    f_Link_reachSymbol_29 F c ph7)
theorem r_Link_reachSymbol {l : Launch} {g : px_G} {d F : Nat} {a0 : Nat} {a1 : Int32} {a2 : Int32} {ph : px_H} {r : Unit} {ph' : px_H} (h : f_Link_reachSymbol F (px_ct g) a0 a1 a2 ph = some (r, ph')) : PW l g (d + 2) m_Link_reachSymbol 0 [.ref a0, .int a1, .int a2, px_u] [] ph (px_qV r ph') := by
  unfold f_Link_reachSymbol at h
  refine px_ld rfl rfl rfl rfl rfl ?_
  refine px_ld rfl rfl rfl rfl rfl ?_
  refine px_ld rfl rfl rfl rfl rfl ?_
  obtain ⟨fs, h0, h⟩ := xs_some h
  have e1 := xo_some h0
  obtain ⟨t1, ph2, h0, h⟩ := xb_some h
  refine px_cV2 rfl rfl e1 rfl rfl rfl rfl rfl rfl rfl (r_Link_nameOf h0 :) (fun _ _ q => nomatch q.2) (fun r ph' q => ?_)
  obtain ⟨rfl, q⟩ := q
  cases q
  refine px_st (lv' := [.ref a0, .int a1, .int a2, va_rf t1]) rfl rfl (by first | rfl | (cases t1 <;> rfl)) (by first | rfl | (cases t1 <;> rfl)) rfl (by first | rfl | (cases t1 <;> rfl)) rfl ?_
  refine px_ld rfl rfl rfl (by first | rfl | (cases t1 <;> rfl)) rfl ?_
  cases t1 with
  | none =>
    refine px_ifnullN rfl rfl rfl ?_
    refine px_ld rfl rfl rfl rfl rfl ?_
    refine px_ld rfl rfl rfl rfl rfl ?_
    refine px_ld rfl rfl rfl rfl rfl ?_
    refine px_ld rfl rfl rfl rfl rfl ?_
    obtain ⟨fs, h0, h⟩ := xs_some h
    have e1 := xo_some h0
    obtain ⟨t4, ph5, h0, h⟩ := xb_some h
    refine px_cV2 rfl rfl e1 rfl rfl rfl rfl rfl rfl rfl (r_Link_partOf h0 :) (fun _ _ q => nomatch q.2) (fun r ph' q => ?_)
    obtain ⟨rfl, q⟩ := q
    cases q
    obtain ⟨fs, h0, h⟩ := xs_some h
    have e1 := xo_some h0
    obtain ⟨u0, ph6, h0, h⟩ := xb_some h
    refine px_cV1 (lv0 := [.ref a0, va_rf t4]) rfl rfl e1 rfl rfl rfl (by first | rfl | (cases t4 <;> rfl)) rfl (by first | rfl | (cases t4 <;> rfl)) rfl (r_Link_reachPart h0 :) (fun _ _ q => nomatch q.2) (fun r ph' q => ?_)
    obtain ⟨rfl, q⟩ := q
    cases q
    refine px_forget (n := 0) (lv' := [_, _, _, _]) rfl ?_
    refine px_forget (n := 1) (lv' := [_, _, _, _]) rfl ?_
    refine px_forget (n := 2) (lv' := [_, _, _, _]) rfl ?_
    refine px_forget (n := 3) (lv' := [_, _, _, _]) rfl ?_
    exact (r_Link_reachSymbol_29 h :)
  | some p3 =>
    refine px_ifnullR rfl rfl ?_
    refine px_ld rfl rfl rfl rfl rfl ?_
    refine px_ld rfl rfl rfl rfl rfl ?_
    obtain ⟨fs, h0, h⟩ := xs_some h
    have e1 := xo_some h0
    obtain ⟨u0, ph7, h0, h⟩ := xb_some h
    refine px_cV1 rfl rfl e1 rfl rfl rfl rfl rfl rfl rfl (r_Link_reachName h0 :) (fun _ _ q => nomatch q.2) (fun r ph' q => ?_)
    obtain ⟨rfl, q⟩ := q
    cases q
    refine px_goto rfl rfl rfl ?_
    refine px_forget (n := 0) (lv' := [_, _, _, _]) rfl ?_
    refine px_forget (n := 1) (lv' := [_, _, _, _]) rfl ?_
    refine px_forget (n := 2) (lv' := [_, _, _, _]) rfl ?_
    refine px_forget (n := 3) (lv' := [_, _, _, _]) rfl ?_
    exact (r_Link_reachSymbol_29 h :)
def f_Link_reachFrom_108 (F : Nat) (c : px_CT) (ph : px_H) : Option (Unit × px_H) :=
  some ((), ph)
theorem r_Link_reachFrom_108 {l : Launch} {g : px_G} {d F : Nat} {ph : px_H} {r : Unit} {ph' : px_H} (h : f_Link_reachFrom_108 F (px_ct g) ph = some (r, ph')) : PW l g (d + 3) m_Link_reachFrom 108 [px_u, px_u, px_u, px_u, px_u, px_u, px_u] [] ph (px_qV r ph') := by
  unfold f_Link_reachFrom_108 at h
  cases h
  exact px_vret rfl rfl rfl ⟨rfl, rfl⟩
def f_Link_reachFrom_102 (F : Nat) (c : px_CT) (k11 : Nat → Option Nat → Option Nat → Int32 → px_H → Option (Unit × px_H)) (a0 : Nat) (a1 : Option Nat) (a2 : Option Nat) (a3 : Int32) (ph : px_H) : Option (Unit × px_H) :=
  k11 a0 a1 a2 (a3 + nI 1) ph
theorem r_Link_reachFrom_102 {l : Launch} {g : px_G} {d F : Nat} {k11 : Nat → Option Nat → Option Nat → Int32 → px_H → Option (Unit × px_H)} (hk11 : ∀ {a0 : Nat} {a1 : Option Nat} {a2 : Option Nat} {a3 : Int32} {ph : px_H} {r : Unit} {ph' : px_H}, k11 a0 a1 a2 a3 ph = some (r, ph') → PW l g (d + 3) m_Link_reachFrom 11 [.ref a0, va_rf a1, va_rf a2, .int a3, px_u, px_u, px_u] [] ph (px_qV r ph')) {a0 : Nat} {a1 : Option Nat} {a2 : Option Nat} {a3 : Int32} {ph : px_H} {r : Unit} {ph' : px_H} (h : f_Link_reachFrom_102 F (px_ct g) k11 a0 a1 a2 a3 ph = some (r, ph')) : PW l g (d + 3) m_Link_reachFrom 102 [.ref a0, va_rf a1, va_rf a2, .int a3, px_u, px_u, px_u] [] ph (px_qV r ph') := by
  unfold f_Link_reachFrom_102 at h
  refine px_iinc (lv' := [_, _, _, _, _, _, _]) rfl rfl rfl (by first | rfl | (cases a2 <;> rfl)) rfl rfl ?_
  refine px_goto rfl rfl rfl ?_
  exact (hk11 h :)
def f_Link_reachFrom_93 (F : Nat) (c : px_CT) (k11 : Nat → Option Nat → Option Nat → Int32 → px_H → Option (Unit × px_H)) (k52 : Nat → Option Nat → Option Nat → Int32 → Int32 → Int32 → Int32 → px_H → Option (Unit × px_H)) (a0 : Nat) (a1 : Option Nat) (a2 : Option Nat) (a3 : Int32) (a4 : Int32) (a5 : Int32) (a6 : Int32) (ph : px_H) : Option (Unit × px_H) :=
  k52 a0 a1 a2 a3 (a4 + nI 24) a5 (a6 + nI 1) ph
theorem r_Link_reachFrom_93 {l : Launch} {g : px_G} {d F : Nat} {k11 : Nat → Option Nat → Option Nat → Int32 → px_H → Option (Unit × px_H)} (hk11 : ∀ {a0 : Nat} {a1 : Option Nat} {a2 : Option Nat} {a3 : Int32} {ph : px_H} {r : Unit} {ph' : px_H}, k11 a0 a1 a2 a3 ph = some (r, ph') → PW l g (d + 3) m_Link_reachFrom 11 [.ref a0, va_rf a1, va_rf a2, .int a3, px_u, px_u, px_u] [] ph (px_qV r ph')) {k52 : Nat → Option Nat → Option Nat → Int32 → Int32 → Int32 → Int32 → px_H → Option (Unit × px_H)} (hk52 : ∀ {a0 : Nat} {a1 : Option Nat} {a2 : Option Nat} {a3 : Int32} {a4 : Int32} {a5 : Int32} {a6 : Int32} {ph : px_H} {r : Unit} {ph' : px_H}, k52 a0 a1 a2 a3 a4 a5 a6 ph = some (r, ph') → PW l g (d + 3) m_Link_reachFrom 52 [.ref a0, va_rf a1, va_rf a2, .int a3, .int a4, .int a5, .int a6] [] ph (px_qV r ph')) {a0 : Nat} {a1 : Option Nat} {a2 : Option Nat} {a3 : Int32} {a4 : Int32} {a5 : Int32} {a6 : Int32} {ph : px_H} {r : Unit} {ph' : px_H} (h : f_Link_reachFrom_93 F (px_ct g) k11 k52 a0 a1 a2 a3 a4 a5 a6 ph = some (r, ph')) : PW l g (d + 3) m_Link_reachFrom 93 [.ref a0, va_rf a1, va_rf a2, .int a3, .int a4, .int a5, .int a6] [] ph (px_qV r ph') := by
  unfold f_Link_reachFrom_93 at h
  refine px_iinc (lv' := [_, _, _, _, _, _, _]) rfl rfl rfl rfl rfl rfl ?_
  refine px_iinc (lv' := [_, _, _, _, _, _, _]) rfl rfl rfl rfl rfl rfl ?_
  refine px_goto rfl rfl rfl ?_
  exact (hk52 h :)
def f_Link_reachFrom_52 (F : Nat) (c : px_CT) (k11 : Nat → Option Nat → Option Nat → Int32 → px_H → Option (Unit × px_H)) : Nat → Nat → Option Nat → Option Nat → Int32 → Int32 → Int32 → Int32 → px_H → Option (Unit × px_H)
  | 0, _, _, _, _, _, _, _, _ => none
  | n + 1, a0, a1, a2, a3, a4, a5, a6, ph =>
    if a5 ≤ a6 then
      f_Link_reachFrom_102 F c k11 a0 a1 a2 a3 ph
    else
      (a2).bind fun p1 =>
      (xo ph 7 p1).bind fun _ =>
      xb (f_ObjectFile_num F c p1 (a4 + (nI 8)) (nI 4) ph) fun t2 ph3 =>
      if t2 = (lN 0) then
        f_Link_reachFrom_93 F c k11 (f_Link_reachFrom_52 F c k11 n) a0 a1 (some p1) a3 a4 a5 a6 ph3
      else
        (a1).bind fun p4 =>
        (xgI ph3 8 0 p4).bind fun t5 =>
        (xo ph3 7 p1).bind fun _ =>
        xb (f_ObjectFile_num F c p1 (a4 + (nI 12)) (nI 4) ph3) fun t6 ph7 =>
        (xo ph7 3 a0).bind fun _ =>
        xb (f_Link_reachSymbol F c a0 t5 t6.toInt32 ph7) fun _ ph8 =>
        f_Link_reachFrom_93 F c k11 (f_Link_reachFrom_52 F c k11 n) a0 (some p4) (some p1) a3 a4 a5 a6 ph8
theorem r_Link_reachFrom_52 {l : Launch} {g : px_G} {d F : Nat} {k11 : Nat → Option Nat → Option Nat → Int32 → px_H → Option (Unit × px_H)} (hk11 : ∀ {a0 : Nat} {a1 : Option Nat} {a2 : Option Nat} {a3 : Int32} {ph : px_H} {r : Unit} {ph' : px_H}, k11 a0 a1 a2 a3 ph = some (r, ph') → PW l g (d + 3) m_Link_reachFrom 11 [.ref a0, va_rf a1, va_rf a2, .int a3, px_u, px_u, px_u] [] ph (px_qV r ph')) : ∀ (n : Nat) {a0 : Nat} {a1 : Option Nat} {a2 : Option Nat} {a3 : Int32} {a4 : Int32} {a5 : Int32} {a6 : Int32} {ph : px_H} {r : Unit} {ph' : px_H}, f_Link_reachFrom_52 F (px_ct g) k11 n a0 a1 a2 a3 a4 a5 a6 ph = some (r, ph') → PW l g (d + 3) m_Link_reachFrom 52 [.ref a0, va_rf a1, va_rf a2, .int a3, .int a4, .int a5, .int a6] [] ph (px_qV r ph') := by
  intro n
  induction n with
  | zero => intro _ _ _ _ _ _ _ _ _ _ h; cases h
  | succ n ih =>
    intro a0 a1 a2 a3 a4 a5 a6 ph r ph' h
    unfold f_Link_reachFrom_52 at h
    refine px_ld rfl rfl rfl rfl rfl ?_
    refine px_ld rfl rfl rfl rfl rfl ?_
    refine px_icge rfl rfl rfl (fun hc => ?_) (fun hc => ?_)
    · replace h := (if_pos hc).symm.trans h
      refine px_forget (n := 4) (lv' := [_, _, _, _, _, _, _]) rfl ?_
      refine px_forget (n := 5) (lv' := [_, _, _, _, _, _, _]) rfl ?_
      refine px_forget (n := 6) (lv' := [_, _, _, _, _, _, _]) rfl ?_
      exact (r_Link_reachFrom_102 @hk11 h :)
    · replace h := (if_neg hc).symm.trans h
      refine px_ld rfl rfl rfl (by first | rfl | (cases a2 <;> rfl)) rfl ?_
      refine px_ld rfl rfl rfl rfl rfl ?_
      refine px_ic (k := 8) rfl rfl rfl ?_
      refine px_alu rfl rfl rfl ?_
      refine px_ic (k := 4) rfl rfl rfl ?_
      obtain ⟨p1, h0, h⟩ := xs_some h
      revert h
      subst h0
      intro h
      obtain ⟨fs, h0, h⟩ := xs_some h
      have e1 := xo_some h0
      obtain ⟨t2, ph3, h0, h⟩ := xb_some h
      refine px_cV2 rfl rfl e1 rfl rfl rfl rfl rfl rfl rfl (r_ObjectFile_num h0 :) (fun _ _ q => nomatch q.2) (fun r ph' q => ?_)
      obtain ⟨rfl, q⟩ := q
      cases q
      refine px_alu rfl rfl rfl ?_
      refine px_alu rfl rfl rfl ?_
      refine px_ifeq rfl rfl rfl (fun hc => ?_) (fun hc => ?_)
      · replace h := (if_pos ((lg_cmp_eq _ _).mp hc)).symm.trans h
        exact (r_Link_reachFrom_93 @hk11 @ih h :)
      · replace h := (if_neg (fun q => hc ((lg_cmp_eq _ _).mpr q))).symm.trans h
        refine px_ld rfl rfl rfl rfl rfl ?_
        refine px_ld rfl rfl rfl (by first | rfl | (cases a1 <;> rfl)) rfl ?_
        obtain ⟨p4, h0, h⟩ := xs_some h
        revert h
        subst h0
        intro h
        obtain ⟨t5, h0, h⟩ := xs_some h
        obtain ⟨fs, e1, e2⟩ := xgI_some h0
        refine px_get rfl e1 e2 rfl ?_
        refine px_ld rfl rfl rfl rfl rfl ?_
        refine px_ld rfl rfl rfl rfl rfl ?_
        refine px_ic (k := 12) rfl rfl rfl ?_
        refine px_alu rfl rfl rfl ?_
        refine px_ic (k := 4) rfl rfl rfl ?_
        obtain ⟨fs, h0, h⟩ := xs_some h
        have e1 := xo_some h0
        obtain ⟨t6, ph7, h0, h⟩ := xb_some h
        refine px_cV2 rfl rfl e1 rfl rfl rfl rfl rfl rfl rfl (r_ObjectFile_num h0 :) (fun _ _ q => nomatch q.2) (fun r ph' q => ?_)
        obtain ⟨rfl, q⟩ := q
        cases q
        refine px_alu rfl rfl rfl ?_
        obtain ⟨fs, h0, h⟩ := xs_some h
        have e1 := xo_some h0
        obtain ⟨u0, ph8, h0, h⟩ := xb_some h
        refine px_cV2 rfl rfl e1 rfl rfl rfl rfl rfl rfl rfl (r_Link_reachSymbol h0 :) (fun _ _ q => nomatch q.2) (fun r ph' q => ?_)
        obtain ⟨rfl, q⟩ := q
        cases q
        exact (r_Link_reachFrom_93 @hk11 @ih h :)
def f_Link_reachFrom_11 (F : Nat) (c : px_CT) : Nat → Nat → Option Nat → Option Nat → Int32 → px_H → Option (Unit × px_H)
  | 0, _, _, _, _, _ => none
  | n + 1, a0, a1, a2, a3, ph =>
    (a2).bind fun p1 =>
    (xgI ph 7 8 p1).bind fun t2 =>
    if t2 ≤ a3 then
      f_Link_reachFrom_108 F c ph
    else
      (xo ph 7 p1).bind fun _ =>
      xb (f_ObjectFile_targetOf F c p1 a3 ph) fun t3 ph4 =>
      (a1).bind fun p5 =>
      (xgI ph4 8 3 p5).bind fun t6 =>
      if t3 = t6 then
        (xo ph4 7 p1).bind fun _ =>
        xb (f_ObjectFile_placeOf F c p1 a3 ph4) fun t7 ph8 =>
        (xo ph8 7 p1).bind fun _ =>
        xb (f_ObjectFile_sitesOf F c p1 a3 ph8) fun t9 ph10 =>
        f_Link_reachFrom_52 F c (f_Link_reachFrom_11 F c n) F a0 (some p5) (some p1) a3 t7.toInt32 t9 (nI 0) ph10
      else
        f_Link_reachFrom_102 F c (f_Link_reachFrom_11 F c n) a0 (some p5) (some p1) a3 ph4
theorem r_Link_reachFrom_11 {l : Launch} {g : px_G} {d F : Nat} : ∀ (n : Nat) {a0 : Nat} {a1 : Option Nat} {a2 : Option Nat} {a3 : Int32} {ph : px_H} {r : Unit} {ph' : px_H}, f_Link_reachFrom_11 F (px_ct g) n a0 a1 a2 a3 ph = some (r, ph') → PW l g (d + 3) m_Link_reachFrom 11 [.ref a0, va_rf a1, va_rf a2, .int a3, px_u, px_u, px_u] [] ph (px_qV r ph') := by
  intro n
  induction n with
  | zero => intro _ _ _ _ _ _ _ h; cases h
  | succ n ih =>
    intro a0 a1 a2 a3 ph r ph' h
    unfold f_Link_reachFrom_11 at h
    refine px_ld rfl rfl rfl rfl rfl ?_
    refine px_ld rfl rfl rfl (by first | rfl | (cases a2 <;> rfl)) rfl ?_
    obtain ⟨p1, h0, h⟩ := xs_some h
    revert h
    subst h0
    intro h
    obtain ⟨t2, h0, h⟩ := xs_some h
    obtain ⟨fs, e1, e2⟩ := xgI_some h0
    refine px_get rfl e1 e2 rfl ?_
    refine px_icge rfl rfl rfl (fun hc => ?_) (fun hc => ?_)
    · replace h := (if_pos hc).symm.trans h
      refine px_forget (n := 0) (lv' := [_, _, _, _, _, _, _]) rfl ?_
      refine px_forget (n := 1) (lv' := [_, _, _, _, _, _, _]) rfl ?_
      refine px_forget (n := 2) (lv' := [_, _, _, _, _, _, _]) rfl ?_
      refine px_forget (n := 3) (lv' := [_, _, _, _, _, _, _]) rfl ?_
      exact (r_Link_reachFrom_108 h :)
    · replace h := (if_neg hc).symm.trans h
      refine px_ld rfl rfl rfl rfl rfl ?_
      refine px_ld rfl rfl rfl rfl rfl ?_
      obtain ⟨fs, h0, h⟩ := xs_some h
      have e1 := xo_some h0
      obtain ⟨t3, ph4, h0, h⟩ := xb_some h
      refine px_cV1 rfl rfl e1 rfl rfl rfl rfl rfl rfl rfl (r_ObjectFile_targetOf h0 :) (fun _ _ q => nomatch q.2) (fun r ph' q => ?_)
      obtain ⟨rfl, q⟩ := q
      cases q
      refine px_ld rfl rfl rfl (by first | rfl | (cases a1 <;> rfl)) rfl ?_
      obtain ⟨p5, h0, h⟩ := xs_some h
      revert h
      subst h0
      intro h
      obtain ⟨t6, h0, h⟩ := xs_some h
      obtain ⟨fs, e1, e2⟩ := xgI_some h0
      refine px_get rfl e1 e2 rfl ?_
      refine px_iceq rfl rfl rfl (fun hc => ?_) (fun hc => ?_)
      · replace h := (if_pos hc).symm.trans h
        refine px_ld rfl rfl rfl rfl rfl ?_
        refine px_ld rfl rfl rfl rfl rfl ?_
        obtain ⟨fs, h0, h⟩ := xs_some h
        have e1 := xo_some h0
        obtain ⟨t7, ph8, h0, h⟩ := xb_some h
        refine px_cV1 rfl rfl e1 rfl rfl rfl rfl rfl rfl rfl (r_ObjectFile_placeOf h0 :) (fun _ _ q => nomatch q.2) (fun r ph' q => ?_)
        obtain ⟨rfl, q⟩ := q
        cases q
        refine px_alu rfl rfl rfl ?_
        refine px_st (lv' := [_, _, _, _, _, _, _]) rfl rfl rfl rfl rfl rfl rfl ?_
        refine px_ld rfl rfl rfl rfl rfl ?_
        refine px_ld rfl rfl rfl rfl rfl ?_
        obtain ⟨fs, h0, h⟩ := xs_some h
        have e1 := xo_some h0
        obtain ⟨t9, ph10, h0, h⟩ := xb_some h
        refine px_cV1 rfl rfl e1 rfl rfl rfl rfl rfl rfl rfl (r_ObjectFile_sitesOf h0 :) (fun _ _ q => nomatch q.2) (fun r ph' q => ?_)
        obtain ⟨rfl, q⟩ := q
        cases q
        refine px_st (lv' := [_, _, _, _, _, _, _]) rfl rfl rfl rfl rfl rfl rfl ?_
        refine px_ic (k := 0) rfl rfl rfl ?_
        refine px_st (lv' := [_, _, _, _, _, _, _]) rfl rfl rfl rfl rfl rfl rfl ?_
        exact (r_Link_reachFrom_52 @ih _ h :)
      · replace h := (if_neg hc).symm.trans h
        refine px_goto rfl rfl rfl ?_
        exact (r_Link_reachFrom_102 @ih h :)
def f_Link_reachFrom (F : Nat) (c : px_CT) (a0 : Nat) (a1 : Option Nat) (ph : px_H) : Option (Unit × px_H) :=
  (a1).bind fun p1 =>
  (xgI ph 8 0 p1).bind fun t2 =>
  (xo ph 3 a0).bind fun _ =>
  xb (f_Link_object F c a0 t2 ph) fun t3 ph4 =>
  f_Link_reachFrom_11 F c F a0 (some p1) t3 (nI 0) ph4
theorem r_Link_reachFrom {l : Launch} {g : px_G} {d F : Nat} {a0 : Nat} {a1 : Option Nat} {ph : px_H} {r : Unit} {ph' : px_H} (h : f_Link_reachFrom F (px_ct g) a0 a1 ph = some (r, ph')) : PW l g (d + 3) m_Link_reachFrom 0 [.ref a0, va_rf a1, px_u, px_u, px_u, px_u, px_u] [] ph (px_qV r ph') := by
  unfold f_Link_reachFrom at h
  refine px_ld rfl rfl rfl rfl rfl ?_
  refine px_ld rfl rfl rfl (by first | rfl | (cases a1 <;> rfl)) rfl ?_
  obtain ⟨p1, h0, h⟩ := xs_some h
  revert h
  subst h0
  intro h
  obtain ⟨t2, h0, h⟩ := xs_some h
  obtain ⟨fs, e1, e2⟩ := xgI_some h0
  refine px_get rfl e1 e2 rfl ?_
  obtain ⟨fs, h0, h⟩ := xs_some h
  have e1 := xo_some h0
  obtain ⟨t3, ph4, h0, h⟩ := xb_some h
  refine px_cV1 rfl rfl e1 rfl rfl rfl rfl rfl rfl rfl (r_Link_object h0 :) (fun _ _ q => nomatch q.2) (fun r ph' q => ?_)
  obtain ⟨rfl, q⟩ := q
  cases q
  refine px_st (lv' := [.ref a0, .ref p1, va_rf t3, px_u, px_u, px_u, px_u]) rfl rfl (by first | rfl | (cases t3 <;> rfl)) (by first | rfl | (cases t3 <;> rfl)) rfl (by first | rfl | (cases t3 <;> rfl)) rfl ?_
  refine px_ic (k := 0) rfl rfl rfl ?_
  refine px_st (lv' := [.ref a0, .ref p1, va_rf t3, .int (nI 0), px_u, px_u, px_u]) rfl rfl rfl rfl (by first | rfl | (cases t3 <;> rfl)) rfl rfl ?_
  exact (r_Link_reachFrom_11 _ h :)
def f_Link_keepReached_130 (F : Nat) (c : px_CT) (ph : px_H) : Option (Unit × px_H) :=
  some ((), ph)
theorem r_Link_keepReached_130 {l : Launch} {g : px_G} {d F : Nat} {ph : px_H} {r : Unit} {ph' : px_H} (h : f_Link_keepReached_130 F (px_ct g) ph = some (r, ph')) : PW l g (d + 4) m_Link_keepReached 130 [px_u, px_u, px_u] [] ph (px_qV r ph') := by
  unfold f_Link_keepReached_130 at h
  cases h
  exact px_vret rfl rfl rfl ⟨rfl, rfl⟩
def f_Link_keepReached_124 (F : Nat) (c : px_CT) (k88 : Nat → Int32 → px_H → Option (Unit × px_H)) (a0 : Nat) (a2 : Int32) (ph : px_H) : Option (Unit × px_H) :=
  k88 a0 (a2 + nI 1) ph
theorem r_Link_keepReached_124 {l : Launch} {g : px_G} {d F : Nat} {k88 : Nat → Int32 → px_H → Option (Unit × px_H)} (hk88 : ∀ {a0 : Nat} {a2 : Int32} {ph : px_H} {r : Unit} {ph' : px_H}, k88 a0 a2 ph = some (r, ph') → PW l g (d + 4) m_Link_keepReached 88 [.ref a0, px_u, .int a2] [] ph (px_qV r ph')) {a0 : Nat} {a2 : Int32} {ph : px_H} {r : Unit} {ph' : px_H} (h : f_Link_keepReached_124 F (px_ct g) k88 a0 a2 ph = some (r, ph')) : PW l g (d + 4) m_Link_keepReached 124 [.ref a0, px_u, .int a2] [] ph (px_qV r ph') := by
  unfold f_Link_keepReached_124 at h
  refine px_iinc (lv' := [_, _, _]) rfl rfl rfl rfl rfl rfl ?_
  refine px_goto rfl (by decide) rfl ?_
  exact (hk88 h :)
def f_Link_keepReached_88 (F : Nat) (c : px_CT) : Nat → Nat → Int32 → px_H → Option (Unit × px_H)
  | 0, _, _, _ => none
  | n + 1, a0, a2, ph =>
    (xgI ph 3 16 a0).bind fun t1 =>
    if t1 ≤ a2 then
      f_Link_keepReached_130 F c ph
    else
      (xgR ph 3 10 a0).bind fun t2 =>
      (xal ph 6 t2).bind fun t3 =>
      if t3 ≤ a2 then
        f_Link_keepReached_130 F c ph
      else
        (xgR ph 3 10 a0).bind fun t4 =>
        (xaN ph 6 t4 a2).bind fun t5 =>
        (match t5 with
          | none => f_Link_keepReached_124 F c (f_Link_keepReached_88 F c n) a0 a2 ph
          | some p6 => (xgR ph 3 10 a0).bind fun t7 =>
          (xaN ph 6 t7 a2).bind fun t8 =>
          (xo ph 3 a0).bind fun _ =>
          xb (f_Link_reachFrom F c a0 t8 ph) fun _ ph9 =>
          f_Link_keepReached_124 F c (f_Link_keepReached_88 F c n) a0 a2 ph9)
theorem r_Link_keepReached_88 {l : Launch} {g : px_G} {d F : Nat} : ∀ (n : Nat) {a0 : Nat} {a2 : Int32} {ph : px_H} {r : Unit} {ph' : px_H}, f_Link_keepReached_88 F (px_ct g) n a0 a2 ph = some (r, ph') → PW l g (d + 4) m_Link_keepReached 88 [.ref a0, px_u, .int a2] [] ph (px_qV r ph') := by
  intro n
  induction n with
  | zero => intro _ _ _ _ _ h; cases h
  | succ n ih =>
    intro a0 a2 ph r ph' h
    unfold f_Link_keepReached_88 at h
    refine px_ld rfl rfl rfl rfl rfl ?_
    refine px_ld rfl rfl rfl rfl rfl ?_
    obtain ⟨t1, h0, h⟩ := xs_some h
    obtain ⟨fs, e1, e2⟩ := xgI_some h0
    refine px_get rfl e1 e2 rfl ?_
    refine px_icge rfl (by decide) rfl (fun hc => ?_) (fun hc => ?_)
    · replace h := (if_pos hc).symm.trans h
      refine px_forget (n := 0) (lv' := [_, _, _]) rfl ?_
      refine px_forget (n := 2) (lv' := [_, _, _]) rfl ?_
      exact (r_Link_keepReached_130 h :)
    · replace h := (if_neg hc).symm.trans h
      refine px_ld rfl rfl rfl rfl rfl ?_
      refine px_ld rfl rfl rfl rfl rfl ?_
      obtain ⟨t2, h0, h⟩ := xs_some h
      obtain ⟨fs, e1, e2⟩ := xgR_some h0
      refine px_get rfl e1 e2 rfl ?_
      obtain ⟨t3, h0, h⟩ := xs_some h
      obtain ⟨x, e1, e3⟩ := xal_some h0
      subst e3
      refine px_alen rfl e1 rfl rfl ?_
      refine px_icge rfl (by decide) rfl (fun hc => ?_) (fun hc => ?_)
      · replace h := (if_pos hc).symm.trans h
        refine px_forget (n := 0) (lv' := [_, _, _]) rfl ?_
        refine px_forget (n := 2) (lv' := [_, _, _]) rfl ?_
        exact (r_Link_keepReached_130 h :)
      · replace h := (if_neg hc).symm.trans h
        refine px_ld rfl rfl rfl rfl rfl ?_
        obtain ⟨t4, h0, h⟩ := xs_some h
        obtain ⟨fs, e1, e2⟩ := xgR_some h0
        refine px_get rfl e1 e2 rfl ?_
        refine px_ld rfl rfl rfl rfl rfl ?_
        obtain ⟨t5, h0, h⟩ := xs_some h
        obtain ⟨N, f, e1, e2, e3⟩ := xaN_some h0
        refine px_aaldO rfl e1 rfl e2 e3 rfl ?_
        cases t5 with
        | none =>
          refine px_ifnullN rfl (by decide) rfl ?_
          exact (r_Link_keepReached_124 @ih h :)
        | some p6 =>
          refine px_ifnullR rfl rfl ?_
          refine px_ld rfl rfl rfl rfl rfl ?_
          refine px_ld rfl rfl rfl rfl rfl ?_
          obtain ⟨t7, h0, h⟩ := xs_some h
          obtain ⟨fs, e1, e2⟩ := xgR_some h0
          refine px_get rfl e1 e2 rfl ?_
          refine px_ld rfl rfl rfl rfl rfl ?_
          obtain ⟨t8, h0, h⟩ := xs_some h
          obtain ⟨N, f, e1, e2, e3⟩ := xaN_some h0
          refine px_aaldO rfl e1 rfl e2 e3 rfl ?_
          obtain ⟨fs, h0, h⟩ := xs_some h
          have e1 := xo_some h0
          obtain ⟨u0, ph9, h0, h⟩ := xb_some h
          refine px_cV1 (lv0 := [.ref a0, va_rf t8, px_u, px_u, px_u, px_u, px_u]) rfl rfl e1 rfl rfl rfl (by first | rfl | (cases t8 <;> rfl)) rfl (by first | rfl | (cases t8 <;> rfl)) rfl (r_Link_reachFrom h0 :) (fun _ _ q => nomatch q.2) (fun r ph' q => ?_)
          obtain ⟨rfl, q⟩ := q
          cases q
          exact (r_Link_keepReached_124 @ih h :)
def f_Link_keepReached_86 (F : Nat) (c : px_CT) (a0 : Nat) (ph : px_H) : Option (Unit × px_H) :=
  f_Link_keepReached_88 F c F a0 (nI 0) ph
theorem r_Link_keepReached_86 {l : Launch} {g : px_G} {d F : Nat} {a0 : Nat} {ph : px_H} {r : Unit} {ph' : px_H} (h : f_Link_keepReached_86 F (px_ct g) a0 ph = some (r, ph')) : PW l g (d + 4) m_Link_keepReached 86 [.ref a0, px_u, px_u] [] ph (px_qV r ph') := by
  unfold f_Link_keepReached_86 at h
  refine px_ic (k := 0) rfl rfl rfl ?_
  refine px_st (lv' := [_, _, _]) rfl rfl rfl rfl rfl rfl rfl ?_
  exact (r_Link_keepReached_88 _ h :)
def f_Link_keepReached_60 (F : Nat) (c : px_CT) (a0 : Nat) (ph : px_H) : Option (Unit × px_H) :=
  (xpI ph 3 16 a0 (nI 0)).bind fun ph1 =>
  (xgR ph1 3 3 a0).bind fun t2 =>
  (xgR ph1 3 12 a0).bind fun t3 =>
  (xo ph1 6 t2).bind fun _ =>
  xb (f_Names_find F c t2 (some t3) ph1) fun t4 ph5 =>
  (match t4 with
    | none => f_Link_keepReached_86 F c a0 ph5
    | some p6 => (xo ph5 3 a0).bind fun _ =>
    xb (f_Link_reachName F c a0 (some p6) ph5) fun _ ph7 =>
    f_Link_keepReached_86 F c a0 ph7)
theorem r_Link_keepReached_60 {l : Launch} {g : px_G} {d F : Nat} {a0 : Nat} {ph : px_H} {r : Unit} {ph' : px_H} (h : f_Link_keepReached_60 F (px_ct g) a0 ph = some (r, ph')) : PW l g (d + 4) m_Link_keepReached 60 [.ref a0, px_u, px_u] [] ph (px_qV r ph') := by
  unfold f_Link_keepReached_60 at h
  refine px_ld rfl rfl rfl rfl rfl ?_
  refine px_ic (k := 0) rfl rfl rfl ?_
  obtain ⟨ph1, h0, h⟩ := xs_some h
  obtain ⟨fs, e1, e2, e3⟩ := xpI_some h0
  subst e3
  refine px_put rfl e1 e2 trivial rfl ?_
  refine px_ld rfl rfl rfl rfl rfl ?_
  obtain ⟨t2, h0, h⟩ := xs_some h
  obtain ⟨fs, e1, e2⟩ := xgR_some h0
  refine px_get rfl e1 e2 rfl ?_
  refine px_ld rfl rfl rfl rfl rfl ?_
  obtain ⟨t3, h0, h⟩ := xs_some h
  obtain ⟨fs, e1, e2⟩ := xgR_some h0
  refine px_get rfl e1 e2 rfl ?_
  obtain ⟨fs, h0, h⟩ := xs_some h
  have e1 := xo_some h0
  obtain ⟨t4, ph5, h0, h⟩ := xb_some h
  refine px_cV1 rfl rfl e1 rfl rfl rfl rfl rfl rfl rfl (r_Names_find h0 :) (fun _ _ q => nomatch q.2) (fun r ph' q => ?_)
  obtain ⟨rfl, q⟩ := q
  cases q
  refine px_st (lv' := [.ref a0, va_rf t4, px_u]) rfl rfl (by first | rfl | (cases t4 <;> rfl)) (by first | rfl | (cases t4 <;> rfl)) rfl (by first | rfl | (cases t4 <;> rfl)) rfl ?_
  refine px_ld rfl rfl rfl (by first | rfl | (cases t4 <;> rfl)) rfl ?_
  cases t4 with
  | none =>
    refine px_ifnullN rfl (by decide) rfl ?_
    refine px_forget (n := 1) (lv' := [_, _, _]) rfl ?_
    exact (r_Link_keepReached_86 h :)
  | some p6 =>
    refine px_ifnullR rfl rfl ?_
    refine px_ld rfl rfl rfl rfl rfl ?_
    refine px_ld rfl rfl rfl rfl rfl ?_
    obtain ⟨fs, h0, h⟩ := xs_some h
    have e1 := xo_some h0
    obtain ⟨u0, ph7, h0, h⟩ := xb_some h
    refine px_cV1 rfl rfl e1 rfl rfl rfl rfl rfl rfl rfl (r_Link_reachName h0 :) (fun _ _ q => nomatch q.2) (fun r ph' q => ?_)
    obtain ⟨rfl, q⟩ := q
    cases q
    refine px_forget (n := 1) (lv' := [_, _, _]) rfl ?_
    exact (r_Link_keepReached_86 h :)
def f_Link_keepReached_37 (F : Nat) (c : px_CT) : Nat → Nat → Int32 → px_H → Option (Unit × px_H)
  | 0, _, _, _ => none
  | n + 1, a0, a1, ph =>
    (xgI ph 3 15 a0).bind fun t1 =>
    if t1 ≤ a1 then
      f_Link_keepReached_60 F c a0 ph
    else
      (xo ph 3 a0).bind fun _ =>
      xb (f_Link_definedAt F c a0 a1 ph) fun t2 ph3 =>
      (t2).bind fun p4 =>
      (xpZ ph3 5 13 p4 (nI 0)).bind fun ph5 =>
      f_Link_keepReached_37 F c n a0 (a1 + nI 1) ph5
theorem r_Link_keepReached_37 {l : Launch} {g : px_G} {d F : Nat} : ∀ (n : Nat) {a0 : Nat} {a1 : Int32} {ph : px_H} {r : Unit} {ph' : px_H}, f_Link_keepReached_37 F (px_ct g) n a0 a1 ph = some (r, ph') → PW l g (d + 4) m_Link_keepReached 37 [.ref a0, .int a1, px_u] [] ph (px_qV r ph') := by
  intro n
  induction n with
  | zero => intro _ _ _ _ _ h; cases h
  | succ n ih =>
    intro a0 a1 ph r ph' h
    unfold f_Link_keepReached_37 at h
    refine px_ld rfl rfl rfl rfl rfl ?_
    refine px_ld rfl rfl rfl rfl rfl ?_
    obtain ⟨t1, h0, h⟩ := xs_some h
    obtain ⟨fs, e1, e2⟩ := xgI_some h0
    refine px_get rfl e1 e2 rfl ?_
    refine px_icge rfl (by decide) rfl (fun hc => ?_) (fun hc => ?_)
    · replace h := (if_pos hc).symm.trans h
      refine px_forget (n := 1) (lv' := [_, _, _]) rfl ?_
      exact (r_Link_keepReached_60 h :)
    · replace h := (if_neg hc).symm.trans h
      refine px_ld rfl rfl rfl rfl rfl ?_
      refine px_ld rfl rfl rfl rfl rfl ?_
      obtain ⟨fs, h0, h⟩ := xs_some h
      have e1 := xo_some h0
      obtain ⟨t2, ph3, h0, h⟩ := xb_some h
      refine px_cV1 rfl rfl e1 rfl rfl rfl rfl rfl rfl rfl (r_Link_definedAt h0 :) (fun _ _ q => nomatch q.2) (fun r ph' q => ?_)
      obtain ⟨rfl, q⟩ := q
      cases q
      refine px_ic (k := 0) rfl rfl rfl ?_
      obtain ⟨p4, h0, h⟩ := xs_some h
      revert h
      subst h0
      intro h
      obtain ⟨ph5, h0, h⟩ := xs_some h
      obtain ⟨fs, e1, e2, e3, e4⟩ := xpZ_some h0
      subst e3
      refine px_put rfl e1 e2 e4 rfl ?_
      refine px_iinc (lv' := [_, _, _]) rfl rfl rfl rfl rfl rfl ?_
      refine px_goto rfl (by decide) rfl ?_
      exact (ih h :)
def f_Link_keepReached_35 (F : Nat) (c : px_CT) (a0 : Nat) (ph : px_H) : Option (Unit × px_H) :=
  f_Link_keepReached_37 F c F a0 (nI 0) ph
theorem r_Link_keepReached_35 {l : Launch} {g : px_G} {d F : Nat} {a0 : Nat} {ph : px_H} {r : Unit} {ph' : px_H} (h : f_Link_keepReached_35 F (px_ct g) a0 ph = some (r, ph')) : PW l g (d + 4) m_Link_keepReached 35 [.ref a0, px_u, px_u] [] ph (px_qV r ph') := by
  unfold f_Link_keepReached_35 at h
  refine px_ic (k := 0) rfl rfl rfl ?_
  refine px_st (lv' := [_, _, _]) rfl rfl rfl rfl rfl rfl rfl ?_
  exact (r_Link_keepReached_37 _ h :)
def f_Link_keepReached_2 (F : Nat) (c : px_CT) : Nat → Nat → Int32 → px_H → Option (Unit × px_H)
  | 0, _, _, _ => none
  | n + 1, a0, a1, ph =>
    (xgI ph 3 14 a0).bind fun t1 =>
    if (t1 * (nI 24)) ≤ a1 then
      f_Link_keepReached_35 F c a0 ph
    else
      (xo ph 3 a0).bind fun _ =>
      xb (f_Link_part F c a0 (a1 / (nI 24)) (a1 - a1 / (nI 24) * (nI 24)) ph) fun t2 ph3 =>
      (t2).bind fun p4 =>
      (xpZ ph3 8 9 p4 (nI 0)).bind fun ph5 =>
      f_Link_keepReached_2 F c n a0 (a1 + nI 1) ph5
theorem r_Link_keepReached_2 {l : Launch} {g : px_G} {d F : Nat} : ∀ (n : Nat) {a0 : Nat} {a1 : Int32} {ph : px_H} {r : Unit} {ph' : px_H}, f_Link_keepReached_2 F (px_ct g) n a0 a1 ph = some (r, ph') → PW l g (d + 4) m_Link_keepReached 2 [.ref a0, .int a1, px_u] [] ph (px_qV r ph') := by
  intro n
  induction n with
  | zero => intro _ _ _ _ _ h; cases h
  | succ n ih =>
    intro a0 a1 ph r ph' h
    unfold f_Link_keepReached_2 at h
    refine px_ld rfl rfl rfl rfl rfl ?_
    refine px_ld rfl rfl rfl rfl rfl ?_
    obtain ⟨t1, h0, h⟩ := xs_some h
    obtain ⟨fs, e1, e2⟩ := xgI_some h0
    refine px_get rfl e1 e2 rfl ?_
    refine px_ic (k := 24) rfl rfl rfl ?_
    refine px_alu rfl rfl rfl ?_
    refine px_icge rfl (by decide) rfl (fun hc => ?_) (fun hc => ?_)
    · replace h := (if_pos hc).symm.trans h
      refine px_forget (n := 1) (lv' := [_, _, _]) rfl ?_
      exact (r_Link_keepReached_35 h :)
    · replace h := (if_neg hc).symm.trans h
      refine px_ld rfl rfl rfl rfl rfl ?_
      refine px_ld rfl rfl rfl rfl rfl ?_
      refine px_ic (k := 24) rfl rfl rfl ?_
      refine px_idiv rfl (by decide) rfl ?_
      refine px_ld rfl rfl rfl rfl rfl ?_
      refine px_ic (k := 24) rfl rfl rfl ?_
      refine px_irem rfl (by decide) rfl ?_
      obtain ⟨fs, h0, h⟩ := xs_some h
      have e1 := xo_some h0
      obtain ⟨t2, ph3, h0, h⟩ := xb_some h
      refine px_cV2 rfl rfl e1 rfl rfl rfl rfl rfl rfl rfl (r_Link_part h0 :) (fun _ _ q => nomatch q.2) (fun r ph' q => ?_)
      obtain ⟨rfl, q⟩ := q
      cases q
      refine px_ic (k := 0) rfl rfl rfl ?_
      obtain ⟨p4, h0, h⟩ := xs_some h
      revert h
      subst h0
      intro h
      obtain ⟨ph5, h0, h⟩ := xs_some h
      obtain ⟨fs, e1, e2, e3, e4⟩ := xpZ_some h0
      subst e3
      refine px_put rfl e1 e2 e4 rfl ?_
      refine px_iinc (lv' := [_, _, _]) rfl rfl rfl rfl rfl rfl ?_
      refine px_goto rfl (by decide) rfl ?_
      exact (ih h :)
def f_Link_keepReached (F : Nat) (c : px_CT) (a0 : Nat) (ph : px_H) : Option (Unit × px_H) :=
  f_Link_keepReached_2 F c F a0 (nI 0) ph
theorem r_Link_keepReached {l : Launch} {g : px_G} {d F : Nat} {a0 : Nat} {ph : px_H} {r : Unit} {ph' : px_H} (h : f_Link_keepReached F (px_ct g) a0 ph = some (r, ph')) : PW l g (d + 4) m_Link_keepReached 0 [.ref a0, px_u, px_u] [] ph (px_qV r ph') := by
  unfold f_Link_keepReached at h
  refine px_ic (k := 0) rfl rfl rfl ?_
  refine px_st (lv' := [_, _, _]) rfl rfl rfl rfl rfl rfl rfl ?_
  exact (r_Link_keepReached_2 _ h :)
def f_Link_resolve_103 (F : Nat) (c : px_CT) (ph : px_H) : Option (Int32 × px_H) :=
  some (nI 0, ph)
theorem r_Link_resolve_103 {l : Launch} {g : px_G} {d F : Nat} {ph : px_H} {r : Int32} {ph' : px_H} (h : f_Link_resolve_103 F (px_ct g) ph = some (r, ph')) : PW l g (d + 7) m_Link_resolve 103 [px_u, px_u, px_u, px_u, px_u] [] ph (px_qI r ph') := by
  unfold f_Link_resolve_103 at h
  refine px_ic (k := 0) rfl rfl rfl ?_
  cases h
  exact px_iret rfl (Or.inl rfl) rfl ⟨rfl, rfl⟩
def f_Link_resolve_58 (F : Nat) (c : px_CT) (a0 : Nat) (a1 : Int32) (ph : px_H) : Option (Int32 × px_H) :=
  (xo ph 3 a0).bind fun _ =>
  xb (f_Link_defineOwn F c a0 16 (nI 0) ph) fun _ ph1 =>
  (xo ph1 3 a0).bind fun _ =>
  xb (f_Link_defineOwn F c a0 17 (nI 1) ph1) fun _ ph2 =>
  (xo ph2 3 a0).bind fun _ =>
  xb (f_Link_defineOwn F c a0 18 (nI 2) ph2) fun _ ph3 =>
  (xo ph3 3 a0).bind fun _ =>
  xb (f_Link_defineOwn F c a0 19 (nI 3) ph3) fun _ ph4 =>
  (xo ph4 3 a0).bind fun _ =>
  xb (f_Link_isNameLeft F c a0 ph4) fun t5 ph6 =>
  if t5 = 0 then
    if a1 = 0 then
      f_Link_resolve_103 F c ph6
    else
      (xo ph6 3 a0).bind fun _ =>
      xb (f_Link_keepReached F c a0 ph6) fun _ ph7 =>
      f_Link_resolve_103 F c ph7
  else
    some (nI 2, ph6)
theorem r_Link_resolve_58 {l : Launch} {g : px_G} {d F : Nat} {a0 : Nat} {a1 : Int32} {ph : px_H} {r : Int32} {ph' : px_H} (h : f_Link_resolve_58 F (px_ct g) a0 a1 ph = some (r, ph')) : PW l g (d + 7) m_Link_resolve 58 [.ref a0, .int a1, px_u, px_u, px_u] [] ph (px_qI r ph') := by
  unfold f_Link_resolve_58 at h
  refine px_ld rfl rfl rfl rfl rfl ?_
  refine px_ldcs rfl rfl rfl rfl rfl ?_
  refine px_ic (k := 0) rfl rfl rfl ?_
  obtain ⟨fs, h0, h⟩ := xs_some h
  have e1 := xo_some h0
  obtain ⟨u0, ph1, h0, h⟩ := xb_some h
  refine px_cV2 rfl rfl e1 rfl rfl rfl rfl rfl rfl rfl (r_Link_defineOwn h0 :) (fun _ _ q => nomatch q.2) (fun r ph' q => ?_)
  obtain ⟨rfl, q⟩ := q
  cases q
  refine px_ld rfl rfl rfl rfl rfl ?_
  refine px_ldcs rfl rfl rfl rfl rfl ?_
  refine px_ic (k := 1) rfl rfl rfl ?_
  obtain ⟨fs, h0, h⟩ := xs_some h
  have e1 := xo_some h0
  obtain ⟨u0, ph2, h0, h⟩ := xb_some h
  refine px_cV2 rfl rfl e1 rfl rfl rfl rfl rfl rfl rfl (r_Link_defineOwn h0 :) (fun _ _ q => nomatch q.2) (fun r ph' q => ?_)
  obtain ⟨rfl, q⟩ := q
  cases q
  refine px_ld rfl rfl rfl rfl rfl ?_
  refine px_ldcs rfl rfl rfl rfl rfl ?_
  refine px_ic (k := 2) rfl rfl rfl ?_
  obtain ⟨fs, h0, h⟩ := xs_some h
  have e1 := xo_some h0
  obtain ⟨u0, ph3, h0, h⟩ := xb_some h
  refine px_cV2 rfl rfl e1 rfl rfl rfl rfl rfl rfl rfl (r_Link_defineOwn h0 :) (fun _ _ q => nomatch q.2) (fun r ph' q => ?_)
  obtain ⟨rfl, q⟩ := q
  cases q
  refine px_ld rfl rfl rfl rfl rfl ?_
  refine px_ldcs rfl rfl rfl rfl rfl ?_
  refine px_ic (k := 3) rfl rfl rfl ?_
  obtain ⟨fs, h0, h⟩ := xs_some h
  have e1 := xo_some h0
  obtain ⟨u0, ph4, h0, h⟩ := xb_some h
  refine px_cV2 rfl rfl e1 rfl rfl rfl rfl rfl rfl rfl (r_Link_defineOwn h0 :) (fun _ _ q => nomatch q.2) (fun r ph' q => ?_)
  obtain ⟨rfl, q⟩ := q
  cases q
  refine px_ld rfl rfl rfl rfl rfl ?_
  obtain ⟨fs, h0, h⟩ := xs_some h
  have e1 := xo_some h0
  obtain ⟨t5, ph6, h0, h⟩ := xb_some h
  refine px_cV0 rfl rfl e1 rfl rfl rfl rfl rfl rfl rfl (r_Link_isNameLeft h0 :) (fun _ _ q => nomatch q.2) (fun r ph' q => ?_)
  obtain ⟨rfl, q⟩ := q
  cases q
  refine px_ifeq rfl rfl rfl (fun hc => ?_) (fun hc => ?_)
  · replace h := (if_pos hc).symm.trans h
    refine px_ld rfl rfl rfl rfl rfl ?_
    refine px_ifeq rfl rfl rfl (fun hc => ?_) (fun hc => ?_)
    · replace h := (if_pos hc).symm.trans h
      refine px_forget (n := 0) (lv' := [_, _, _, _, _]) rfl ?_
      refine px_forget (n := 1) (lv' := [_, _, _, _, _]) rfl ?_
      exact (r_Link_resolve_103 h :)
    · replace h := (if_neg hc).symm.trans h
      refine px_ld rfl rfl rfl rfl rfl ?_
      obtain ⟨fs, h0, h⟩ := xs_some h
      have e1 := xo_some h0
      obtain ⟨u0, ph7, h0, h⟩ := xb_some h
      refine px_cV0 rfl rfl e1 rfl rfl rfl rfl rfl rfl rfl (r_Link_keepReached h0 :) (fun _ _ q => nomatch q.2) (fun r ph' q => ?_)
      obtain ⟨rfl, q⟩ := q
      cases q
      refine px_forget (n := 0) (lv' := [_, _, _, _, _]) rfl ?_
      refine px_forget (n := 1) (lv' := [_, _, _, _, _]) rfl ?_
      exact (r_Link_resolve_103 h :)
  · replace h := (if_neg hc).symm.trans h
    refine px_ic (k := 2) rfl rfl rfl ?_
    cases h
    exact px_iret rfl (Or.inl rfl) rfl ⟨rfl, rfl⟩
def f_Link_resolve_50 (F : Nat) (c : px_CT) (ph : px_H) : Option (Int32 × px_H) :=
  some (nI 1, ph)
theorem r_Link_resolve_50 {l : Launch} {g : px_G} {d F : Nat} {ph : px_H} {r : Int32} {ph' : px_H} (h : f_Link_resolve_50 F (px_ct g) ph = some (r, ph')) : PW l g (d + 7) m_Link_resolve 50 [px_u, px_u, px_u, px_u, px_u] [] ph (px_qI r ph') := by
  unfold f_Link_resolve_50 at h
  refine px_ic (k := 1) rfl rfl rfl ?_
  cases h
  exact px_iret rfl (Or.inl rfl) rfl ⟨rfl, rfl⟩
def f_Link_resolve_43 (F : Nat) (c : px_CT) (k6 : Nat → Int32 → Int32 → px_H → Option (Int32 × px_H)) (a0 : Nat) (a1 : Int32) (a2 : Int32) (s0 : Int32) (ph : px_H) : Option (Int32 × px_H) :=
  if s0 = 0 then
    f_Link_resolve_50 F c ph
  else
    k6 a0 a1 (a2 + nI 1) ph
theorem r_Link_resolve_43 {l : Launch} {g : px_G} {d F : Nat} {k6 : Nat → Int32 → Int32 → px_H → Option (Int32 × px_H)} (hk6 : ∀ {a0 : Nat} {a1 : Int32} {a2 : Int32} {ph : px_H} {r : Int32} {ph' : px_H}, k6 a0 a1 a2 ph = some (r, ph') → PW l g (d + 7) m_Link_resolve 6 [.ref a0, .int a1, .int a2, px_u, px_u] [] ph (px_qI r ph')) {a0 : Nat} {a1 : Int32} {a2 : Int32} {s0 : Int32} {ph : px_H} {r : Int32} {ph' : px_H} (h : f_Link_resolve_43 F (px_ct g) k6 a0 a1 a2 s0 ph = some (r, ph')) : PW l g (d + 7) m_Link_resolve 43 [.ref a0, .int a1, .int a2, px_u, px_u] [.int s0] ph (px_qI r ph') := by
  unfold f_Link_resolve_43 at h
  refine px_st (lv' := [_, _, _, _, _]) rfl rfl rfl rfl rfl rfl rfl ?_
  refine px_ld rfl rfl rfl rfl rfl ?_
  refine px_ifne rfl rfl rfl (fun hc => ?_) (fun hc => ?_)
  · replace h := (if_neg hc).symm.trans h
    refine px_iinc (lv' := [_, _, _, _, _]) rfl rfl rfl rfl rfl rfl ?_
    refine px_goto rfl rfl rfl ?_
    refine px_forget (n := 4) (lv' := [_, _, _, _, _]) rfl ?_
    exact (hk6 h :)
  · replace h := (if_pos hc).symm.trans h
    refine px_forget (n := 0) (lv' := [_, _, _, _, _]) rfl ?_
    refine px_forget (n := 1) (lv' := [_, _, _, _, _]) rfl ?_
    refine px_forget (n := 2) (lv' := [_, _, _, _, _]) rfl ?_
    refine px_forget (n := 4) (lv' := [_, _, _, _, _]) rfl ?_
    exact (r_Link_resolve_50 h :)
def f_Link_resolve_6 (F : Nat) (c : px_CT) : Nat → Nat → Int32 → Int32 → px_H → Option (Int32 × px_H)
  | 0, _, _, _, _ => none
  | n + 1, a0, a1, a2, ph =>
    if (nI 8) ≤ a2 then
      f_Link_resolve_58 F c a0 a1 ph
    else
      (xgR ph 3 0 a0).bind fun t1 =>
      (xaN ph 4 t1 (a2 * (nI 8))).bind fun t2 =>
      (t2).bind fun p3 =>
      (xgI ph 7 4 p3).bind fun t4 =>
      if t4 = (nI 1) then
        (xo ph 3 a0).bind fun _ =>
        xb (f_Link_takeObject F c a0 (some p3) ph) fun t7 ph8 =>
        f_Link_resolve_43 F c (f_Link_resolve_6 F c n) a0 a1 a2 t7 ph8
      else
        (xo ph 3 a0).bind fun _ =>
        xb (f_Link_takeMembers F c a0 a2 ph) fun t5 ph6 =>
        f_Link_resolve_43 F c (f_Link_resolve_6 F c n) a0 a1 a2 t5 ph6
theorem r_Link_resolve_6 {l : Launch} {g : px_G} {d F : Nat} : ∀ (n : Nat) {a0 : Nat} {a1 : Int32} {a2 : Int32} {ph : px_H} {r : Int32} {ph' : px_H}, f_Link_resolve_6 F (px_ct g) n a0 a1 a2 ph = some (r, ph') → PW l g (d + 7) m_Link_resolve 6 [.ref a0, .int a1, .int a2, px_u, px_u] [] ph (px_qI r ph') := by
  intro n
  induction n with
  | zero => intro _ _ _ _ _ _ h; cases h
  | succ n ih =>
    intro a0 a1 a2 ph r ph' h
    unfold f_Link_resolve_6 at h
    refine px_ld rfl rfl rfl rfl rfl ?_
    refine px_ic (k := 8) rfl rfl rfl ?_
    refine px_icge rfl rfl rfl (fun hc => ?_) (fun hc => ?_)
    · replace h := (if_pos hc).symm.trans h
      refine px_forget (n := 2) (lv' := [_, _, _, _, _]) rfl ?_
      exact (r_Link_resolve_58 h :)
    · replace h := (if_neg hc).symm.trans h
      refine px_ld rfl rfl rfl rfl rfl ?_
      obtain ⟨t1, h0, h⟩ := xs_some h
      obtain ⟨fs, e1, e2⟩ := xgR_some h0
      refine px_get rfl e1 e2 rfl ?_
      refine px_ld rfl rfl rfl rfl rfl ?_
      refine px_ic (k := 8) rfl rfl rfl ?_
      refine px_alu rfl rfl rfl ?_
      obtain ⟨t2, h0, h⟩ := xs_some h
      obtain ⟨N, f, e1, e2, e3⟩ := xaN_some h0
      refine px_aaldO rfl e1 rfl e2 e3 rfl ?_
      refine px_st (lv' := [.ref a0, .int a1, .int a2, va_rf t2, px_u]) rfl rfl (by first | rfl | (cases t2 <;> rfl)) (by first | rfl | (cases t2 <;> rfl)) rfl (by first | rfl | (cases t2 <;> rfl)) rfl ?_
      refine px_ld rfl rfl rfl (by first | rfl | (cases t2 <;> rfl)) rfl ?_
      obtain ⟨p3, h0, h⟩ := xs_some h
      revert h
      subst h0
      intro h
      obtain ⟨t4, h0, h⟩ := xs_some h
      obtain ⟨fs, e1, e2⟩ := xgI_some h0
      refine px_get rfl e1 e2 rfl ?_
      refine px_ic (k := 1) rfl rfl rfl ?_
      refine px_icne rfl rfl rfl (fun hc => ?_) (fun hc => ?_)
      · replace h := (if_neg hc).symm.trans h
        refine px_ld rfl rfl rfl rfl rfl ?_
        refine px_ld rfl rfl rfl rfl rfl ?_
        obtain ⟨fs, h0, h⟩ := xs_some h
        have e1 := xo_some h0
        obtain ⟨t5, ph6, h0, h⟩ := xb_some h
        refine px_cV1 rfl rfl e1 rfl rfl rfl rfl rfl rfl rfl (r_Link_takeMembers h0 :) (fun _ _ q => nomatch q.2) (fun r ph' q => ?_)
        obtain ⟨rfl, q⟩ := q
        cases q
        refine px_forget (n := 3) (lv' := [_, _, _, _, _]) rfl ?_
        exact (r_Link_resolve_43 @ih h :)
      · replace h := (if_pos hc).symm.trans h
        refine px_ld rfl rfl rfl rfl rfl ?_
        refine px_ld rfl rfl rfl rfl rfl ?_
        obtain ⟨fs, h0, h⟩ := xs_some h
        have e1 := xo_some h0
        obtain ⟨t7, ph8, h0, h⟩ := xb_some h
        refine px_cV1 rfl rfl e1 rfl rfl rfl rfl rfl rfl rfl (r_Link_takeObject h0 :) (fun _ _ q => nomatch q.2) (fun r ph' q => ?_)
        obtain ⟨rfl, q⟩ := q
        cases q
        refine px_goto rfl rfl rfl ?_
        refine px_forget (n := 3) (lv' := [_, _, _, _, _]) rfl ?_
        exact (r_Link_resolve_43 @ih h :)
def f_Link_resolve (F : Nat) (c : px_CT) (a0 : Nat) (a1 : Int32) (ph : px_H) : Option (Int32 × px_H) :=
  (xo ph 3 a0).bind fun _ =>
  xb (f_Link_begin F c a0 ph) fun _ ph1 =>
  f_Link_resolve_6 F c F a0 a1 (nI 0) ph1
theorem r_Link_resolve {l : Launch} {g : px_G} {d F : Nat} {a0 : Nat} {a1 : Int32} {ph : px_H} {r : Int32} {ph' : px_H} (h : f_Link_resolve F (px_ct g) a0 a1 ph = some (r, ph')) : PW l g (d + 7) m_Link_resolve 0 [.ref a0, .int a1, px_u, px_u, px_u] [] ph (px_qI r ph') := by
  unfold f_Link_resolve at h
  refine px_ld rfl rfl rfl rfl rfl ?_
  obtain ⟨fs, h0, h⟩ := xs_some h
  have e1 := xo_some h0
  obtain ⟨u0, ph1, h0, h⟩ := xb_some h
  refine px_cV0 rfl rfl e1 rfl rfl rfl rfl rfl rfl rfl (r_Link_begin h0 :) (fun _ _ q => nomatch q.2) (fun r ph' q => ?_)
  obtain ⟨rfl, q⟩ := q
  cases q
  refine px_ic (k := 0) rfl rfl rfl ?_
  refine px_st (lv' := [_, _, _, _, _]) rfl rfl rfl rfl rfl rfl rfl ?_
  exact (r_Link_resolve_6 _ h :)
def f_Pool_clear (F : Nat) (c : px_CT) (a0 : Nat) (ph : px_H) : Option (Unit × px_H) :=
  (xpI ph 9 3 a0 (nI 0)).bind fun ph1 =>
  (xpI ph1 9 4 a0 (nI 0)).bind fun ph2 =>
  (xpJ ph2 9 5 a0 (lN 0)).bind fun ph3 =>
  some ((), ph3)
theorem r_Pool_clear {l : Launch} {g : px_G} {d F : Nat} {a0 : Nat} {ph : px_H} {r : Unit} {ph' : px_H} (h : f_Pool_clear F (px_ct g) a0 ph = some (r, ph')) : PW l g (d + 0) m_Pool_clear 0 [.ref a0] [] ph (px_qV r ph') := by
  unfold f_Pool_clear at h
  refine px_ld rfl rfl rfl rfl rfl ?_
  refine px_ic (k := 0) rfl rfl rfl ?_
  obtain ⟨ph1, h0, h⟩ := xs_some h
  obtain ⟨fs, e1, e2, e3⟩ := xpI_some h0
  subst e3
  refine px_put rfl e1 e2 trivial rfl ?_
  refine px_ld rfl rfl rfl rfl rfl ?_
  refine px_ic (k := 0) rfl rfl rfl ?_
  obtain ⟨ph2, h0, h⟩ := xs_some h
  obtain ⟨fs, e1, e2, e3⟩ := xpI_some h0
  subst e3
  refine px_put rfl e1 e2 trivial rfl ?_
  refine px_ld rfl rfl rfl rfl rfl ?_
  refine px_alu rfl rfl rfl ?_
  obtain ⟨ph3, h0, h⟩ := xs_some h
  obtain ⟨fs, e1, e2, e3⟩ := xpJ_some h0
  subst e3
  refine px_put rfl e1 e2 trivial rfl ?_
  cases h
  exact px_vret rfl rfl rfl ⟨rfl, rfl⟩
def f_Pool_isEnd_91 (F : Nat) (c : px_CT) (ph : px_H) : Option (Int32 × px_H) :=
  some (nI 1, ph)
theorem r_Pool_isEnd_91 {l : Launch} {g : px_G} {d F : Nat} {ph : px_H} {r : Int32} {ph' : px_H} (h : f_Pool_isEnd_91 F (px_ct g) ph = some (r, ph')) : PW l g (d + 0) m_Pool_isEnd 91 [px_u, px_u, px_u, px_u, px_u, px_u, px_u, px_u] [] ph (px_qI r ph') := by
  unfold f_Pool_isEnd_91 at h
  refine px_ic (k := 1) rfl rfl rfl ?_
  cases h
  exact px_iret rfl (Or.inr ⟨rfl, Or.inr rfl⟩) rfl ⟨rfl, rfl⟩
def f_Pool_isEnd_83 (F : Nat) (c : px_CT) (ph : px_H) : Option (Int32 × px_H) :=
  some (nI 0, ph)
theorem r_Pool_isEnd_83 {l : Launch} {g : px_G} {d F : Nat} {ph : px_H} {r : Int32} {ph' : px_H} (h : f_Pool_isEnd_83 F (px_ct g) ph = some (r, ph')) : PW l g (d + 0) m_Pool_isEnd 83 [px_u, px_u, px_u, px_u, px_u, px_u, px_u, px_u] [] ph (px_qI r ph') := by
  unfold f_Pool_isEnd_83 at h
  refine px_ic (k := 0) rfl rfl rfl ?_
  cases h
  exact px_iret rfl (Or.inr ⟨rfl, Or.inl rfl⟩) rfl ⟨rfl, rfl⟩
def f_Pool_isEnd_61 (F : Nat) (c : px_CT) : Nat → Int32 → Nat → Int32 → Int32 → px_H → Option (Int32 × px_H)
  | 0, _, _, _, _, _ => none
  | n + 1, a1, a5, a6, a7, ph =>
    if a7 < a1 then
      f_Pool_isEnd_91 F c ph
    else
      (xaI ph 0 a5 a7).bind fun t1 =>
      (xaI ph 0 a5 (a7 + a6)).bind fun t2 =>
      if t1 = t2 then
        f_Pool_isEnd_61 F c n a1 a5 a6 (a7 + Int32.ofInt (-1)) ph
      else
        f_Pool_isEnd_83 F c ph
theorem r_Pool_isEnd_61 {l : Launch} {g : px_G} {d F : Nat} : ∀ (n : Nat) {a1 : Int32} {a5 : Nat} {a6 : Int32} {a7 : Int32} {ph : px_H} {r : Int32} {ph' : px_H}, f_Pool_isEnd_61 F (px_ct g) n a1 a5 a6 a7 ph = some (r, ph') → PW l g (d + 0) m_Pool_isEnd 61 [px_u, .int a1, px_u, px_u, px_u, .ref a5, .int a6, .int a7] [] ph (px_qI r ph') := by
  intro n
  induction n with
  | zero => intro _ _ _ _ _ _ _ h; cases h
  | succ n ih =>
    intro a1 a5 a6 a7 ph r ph' h
    unfold f_Pool_isEnd_61 at h
    refine px_ld rfl rfl rfl rfl rfl ?_
    refine px_ld rfl rfl rfl rfl rfl ?_
    refine px_iclt rfl rfl rfl (fun hc => ?_) (fun hc => ?_)
    · replace h := (if_pos hc).symm.trans h
      refine px_forget (n := 1) (lv' := [_, _, _, _, _, _, _, _]) rfl ?_
      refine px_forget (n := 5) (lv' := [_, _, _, _, _, _, _, _]) rfl ?_
      refine px_forget (n := 6) (lv' := [_, _, _, _, _, _, _, _]) rfl ?_
      refine px_forget (n := 7) (lv' := [_, _, _, _, _, _, _, _]) rfl ?_
      exact (r_Pool_isEnd_91 h :)
    · replace h := (if_neg hc).symm.trans h
      refine px_ld rfl rfl rfl rfl rfl ?_
      refine px_ld rfl rfl rfl rfl rfl ?_
      obtain ⟨t1, h0, h⟩ := xs_some h
      obtain ⟨N, f, e1, e2, e3⟩ := xaI_some h0
      subst e3
      refine px_bald rfl e1 rfl e2 rfl ?_
      refine px_ld rfl rfl rfl rfl rfl ?_
      refine px_ld rfl rfl rfl rfl rfl ?_
      refine px_ld rfl rfl rfl rfl rfl ?_
      refine px_alu rfl rfl rfl ?_
      obtain ⟨t2, h0, h⟩ := xs_some h
      obtain ⟨N, f, e1, e2, e3⟩ := xaI_some h0
      subst e3
      refine px_bald rfl e1 rfl e2 rfl ?_
      refine px_iceq rfl rfl rfl (fun hc => ?_) (fun hc => ?_)
      · replace h := (if_pos hc).symm.trans h
        refine px_iinc (lv' := [_, _, _, _, _, _, _, _]) rfl rfl rfl rfl rfl rfl ?_
        refine px_goto rfl rfl rfl ?_
        exact (ih h :)
      · replace h := (if_neg hc).symm.trans h
        refine px_forget (n := 1) (lv' := [_, _, _, _, _, _, _, _]) rfl ?_
        refine px_forget (n := 5) (lv' := [_, _, _, _, _, _, _, _]) rfl ?_
        refine px_forget (n := 6) (lv' := [_, _, _, _, _, _, _, _]) rfl ?_
        refine px_forget (n := 7) (lv' := [_, _, _, _, _, _, _, _]) rfl ?_
        exact (r_Pool_isEnd_83 h :)
def f_Pool_isEnd_42 (F : Nat) (c : px_CT) (ph : px_H) : Option (Int32 × px_H) :=
  some (nI 0, ph)
theorem r_Pool_isEnd_42 {l : Launch} {g : px_G} {d F : Nat} {ph : px_H} {r : Int32} {ph' : px_H} (h : f_Pool_isEnd_42 F (px_ct g) ph = some (r, ph')) : PW l g (d + 0) m_Pool_isEnd 42 [px_u, px_u, px_u, px_u, px_u, px_u, px_u, px_u] [] ph (px_qI r ph') := by
  unfold f_Pool_isEnd_42 at h
  refine px_ic (k := 0) rfl rfl rfl ?_
  cases h
  exact px_iret rfl (Or.inr ⟨rfl, Or.inl rfl⟩) rfl ⟨rfl, rfl⟩
def f_Pool_isEnd (F : Nat) (c : px_CT) (a0 : Nat) (a1 : Int32) (a2 : Int32) (a3 : Int32) (a4 : Int32) (ph : px_H) : Option (Int32 × px_H) :=
  (xgR ph 9 0 a0).bind fun t1 =>
  (xgR ph 10 0 t1).bind fun t2 =>
  if a4 < a2 then
    f_Pool_isEnd_42 F c ph
  else
    if a1 < 0 then
      f_Pool_isEnd_42 F c ph
    else
      if a3 < 0 then
        f_Pool_isEnd_42 F c ph
      else
        (xal ph 0 t2).bind fun t3 =>
        if (t3 - a1) < a2 then
          f_Pool_isEnd_42 F c ph
        else
          (xal ph 0 t2).bind fun t4 =>
          if a4 ≤ (t4 - a3) then
            f_Pool_isEnd_61 F c F a1 t2 (((a3 + a4) - a2) - a1) ((a1 + a2) - (nI 1)) ph
          else
            f_Pool_isEnd_42 F c ph
theorem r_Pool_isEnd {l : Launch} {g : px_G} {d F : Nat} {a0 : Nat} {a1 : Int32} {a2 : Int32} {a3 : Int32} {a4 : Int32} {ph : px_H} {r : Int32} {ph' : px_H} (h : f_Pool_isEnd F (px_ct g) a0 a1 a2 a3 a4 ph = some (r, ph')) : PW l g (d + 0) m_Pool_isEnd 0 [.ref a0, .int a1, .int a2, .int a3, .int a4, px_u, px_u, px_u] [] ph (px_qI r ph') := by
  unfold f_Pool_isEnd at h
  refine px_ld rfl rfl rfl rfl rfl ?_
  obtain ⟨t1, h0, h⟩ := xs_some h
  obtain ⟨fs, e1, e2⟩ := xgR_some h0
  refine px_get rfl e1 e2 rfl ?_
  obtain ⟨t2, h0, h⟩ := xs_some h
  obtain ⟨fs, e1, e2⟩ := xgR_some h0
  refine px_get rfl e1 e2 rfl ?_
  refine px_st (lv' := [_, _, _, _, _, _, _, _]) rfl rfl rfl rfl rfl rfl rfl ?_
  refine px_ld rfl rfl rfl rfl rfl ?_
  refine px_ld rfl rfl rfl rfl rfl ?_
  refine px_icgt rfl rfl rfl (fun hc => ?_) (fun hc => ?_)
  · replace h := (if_pos hc).symm.trans h
    refine px_forget (n := 0) (lv' := [_, _, _, _, _, _, _, _]) rfl ?_
    refine px_forget (n := 1) (lv' := [_, _, _, _, _, _, _, _]) rfl ?_
    refine px_forget (n := 2) (lv' := [_, _, _, _, _, _, _, _]) rfl ?_
    refine px_forget (n := 3) (lv' := [_, _, _, _, _, _, _, _]) rfl ?_
    refine px_forget (n := 4) (lv' := [_, _, _, _, _, _, _, _]) rfl ?_
    refine px_forget (n := 5) (lv' := [_, _, _, _, _, _, _, _]) rfl ?_
    exact (r_Pool_isEnd_42 h :)
  · replace h := (if_neg hc).symm.trans h
    refine px_ld rfl rfl rfl rfl rfl ?_
    refine px_iflt rfl rfl rfl (fun hc => ?_) (fun hc => ?_)
    · replace h := (if_pos hc).symm.trans h
      refine px_forget (n := 0) (lv' := [_, _, _, _, _, _, _, _]) rfl ?_
      refine px_forget (n := 1) (lv' := [_, _, _, _, _, _, _, _]) rfl ?_
      refine px_forget (n := 2) (lv' := [_, _, _, _, _, _, _, _]) rfl ?_
      refine px_forget (n := 3) (lv' := [_, _, _, _, _, _, _, _]) rfl ?_
      refine px_forget (n := 4) (lv' := [_, _, _, _, _, _, _, _]) rfl ?_
      refine px_forget (n := 5) (lv' := [_, _, _, _, _, _, _, _]) rfl ?_
      exact (r_Pool_isEnd_42 h :)
    · replace h := (if_neg hc).symm.trans h
      refine px_ld rfl rfl rfl rfl rfl ?_
      refine px_iflt rfl rfl rfl (fun hc => ?_) (fun hc => ?_)
      · replace h := (if_pos hc).symm.trans h
        refine px_forget (n := 0) (lv' := [_, _, _, _, _, _, _, _]) rfl ?_
        refine px_forget (n := 1) (lv' := [_, _, _, _, _, _, _, _]) rfl ?_
        refine px_forget (n := 2) (lv' := [_, _, _, _, _, _, _, _]) rfl ?_
        refine px_forget (n := 3) (lv' := [_, _, _, _, _, _, _, _]) rfl ?_
        refine px_forget (n := 4) (lv' := [_, _, _, _, _, _, _, _]) rfl ?_
        refine px_forget (n := 5) (lv' := [_, _, _, _, _, _, _, _]) rfl ?_
        exact (r_Pool_isEnd_42 h :)
      · replace h := (if_neg hc).symm.trans h
        refine px_ld rfl rfl rfl rfl rfl ?_
        refine px_ld rfl rfl rfl rfl rfl ?_
        obtain ⟨t3, h0, h⟩ := xs_some h
        obtain ⟨x, e1, e3⟩ := xal_some h0
        subst e3
        refine px_alen rfl e1 rfl rfl ?_
        refine px_ld rfl rfl rfl rfl rfl ?_
        refine px_alu rfl rfl rfl ?_
        refine px_icgt rfl rfl rfl (fun hc => ?_) (fun hc => ?_)
        · replace h := (if_pos hc).symm.trans h
          refine px_forget (n := 0) (lv' := [_, _, _, _, _, _, _, _]) rfl ?_
          refine px_forget (n := 1) (lv' := [_, _, _, _, _, _, _, _]) rfl ?_
          refine px_forget (n := 2) (lv' := [_, _, _, _, _, _, _, _]) rfl ?_
          refine px_forget (n := 3) (lv' := [_, _, _, _, _, _, _, _]) rfl ?_
          refine px_forget (n := 4) (lv' := [_, _, _, _, _, _, _, _]) rfl ?_
          refine px_forget (n := 5) (lv' := [_, _, _, _, _, _, _, _]) rfl ?_
          exact (r_Pool_isEnd_42 h :)
        · replace h := (if_neg hc).symm.trans h
          refine px_ld rfl rfl rfl rfl rfl ?_
          refine px_ld rfl rfl rfl rfl rfl ?_
          obtain ⟨t4, h0, h⟩ := xs_some h
          obtain ⟨x, e1, e3⟩ := xal_some h0
          subst e3
          refine px_alen rfl e1 rfl rfl ?_
          refine px_ld rfl rfl rfl rfl rfl ?_
          refine px_alu rfl rfl rfl ?_
          refine px_icle rfl rfl rfl (fun hc => ?_) (fun hc => ?_)
          · replace h := (if_pos hc).symm.trans h
            refine px_ld rfl rfl rfl rfl rfl ?_
            refine px_ld rfl rfl rfl rfl rfl ?_
            refine px_alu rfl rfl rfl ?_
            refine px_ld rfl rfl rfl rfl rfl ?_
            refine px_alu rfl rfl rfl ?_
            refine px_ld rfl rfl rfl rfl rfl ?_
            refine px_alu rfl rfl rfl ?_
            refine px_st (lv' := [_, _, _, _, _, _, _, _]) rfl rfl rfl rfl rfl rfl rfl ?_
            refine px_ld rfl rfl rfl rfl rfl ?_
            refine px_ld rfl rfl rfl rfl rfl ?_
            refine px_alu rfl rfl rfl ?_
            refine px_ic (k := 1) rfl rfl rfl ?_
            refine px_alu rfl rfl rfl ?_
            refine px_st (lv' := [_, _, _, _, _, _, _, _]) rfl rfl rfl rfl rfl rfl rfl ?_
            refine px_forget (n := 0) (lv' := [_, _, _, _, _, _, _, _]) rfl ?_
            refine px_forget (n := 2) (lv' := [_, _, _, _, _, _, _, _]) rfl ?_
            refine px_forget (n := 3) (lv' := [_, _, _, _, _, _, _, _]) rfl ?_
            refine px_forget (n := 4) (lv' := [_, _, _, _, _, _, _, _]) rfl ?_
            exact (r_Pool_isEnd_61 _ h :)
          · replace h := (if_neg hc).symm.trans h
            refine px_forget (n := 0) (lv' := [_, _, _, _, _, _, _, _]) rfl ?_
            refine px_forget (n := 1) (lv' := [_, _, _, _, _, _, _, _]) rfl ?_
            refine px_forget (n := 2) (lv' := [_, _, _, _, _, _, _, _]) rfl ?_
            refine px_forget (n := 3) (lv' := [_, _, _, _, _, _, _, _]) rfl ?_
            refine px_forget (n := 4) (lv' := [_, _, _, _, _, _, _, _]) rfl ?_
            refine px_forget (n := 5) (lv' := [_, _, _, _, _, _, _, _]) rfl ?_
            exact (r_Pool_isEnd_42 h :)
def f_Pool_admit_186 (F : Nat) (c : px_CT) (ph : px_H) : Option (Unit × px_H) :=
  some ((), ph)
theorem r_Pool_admit_186 {l : Launch} {g : px_G} {d F : Nat} {ph : px_H} {r : Unit} {ph' : px_H} (h : f_Pool_admit_186 F (px_ct g) ph = some (r, ph')) : PW l g (d + 1) m_Pool_admit 186 [px_u, px_u, px_u, px_u, px_u] [] ph (px_qV r ph') := by
  unfold f_Pool_admit_186 at h
  cases h
  exact px_vret rfl rfl rfl ⟨rfl, rfl⟩
def f_Pool_admit_129 (F : Nat) (c : px_CT) (a0 : Nat) (a1 : Int32) (a2 : Int32) (a3 : Int32) (ph : px_H) : Option (Unit × px_H) :=
  (xpI ph 9 3 a0 a3).bind fun ph1 =>
  (xgI ph1 9 3 a0).bind fun t2 =>
  (xgR ph1 9 1 a0).bind fun t3 =>
  (xal ph1 1 t3).bind fun t4 =>
  if t4 ≤ t2 then
    f_Pool_admit_186 F c ph1
  else
    (xgR ph1 9 1 a0).bind fun t5 =>
    (xgI ph1 9 3 a0).bind fun t6 =>
    (xsI ph1 1 t5 t6 a1).bind fun ph7 =>
    (xgR ph7 9 2 a0).bind fun t8 =>
    (xgI ph7 9 3 a0).bind fun t9 =>
    (xsI ph7 1 t8 t9 a2).bind fun ph10 =>
    (xgI ph10 9 3 a0).bind fun t11 =>
    (xpI ph10 9 3 a0 (t11 + (nI 1))).bind fun ph12 =>
    (xgI ph12 9 4 a0).bind fun t13 =>
    (xpI ph12 9 4 a0 (t13 + a2)).bind fun ph14 =>
    f_Pool_admit_186 F c ph14
theorem r_Pool_admit_129 {l : Launch} {g : px_G} {d F : Nat} {a0 : Nat} {a1 : Int32} {a2 : Int32} {a3 : Int32} {ph : px_H} {r : Unit} {ph' : px_H} (h : f_Pool_admit_129 F (px_ct g) a0 a1 a2 a3 ph = some (r, ph')) : PW l g (d + 1) m_Pool_admit 129 [.ref a0, .int a1, .int a2, .int a3, px_u] [] ph (px_qV r ph') := by
  unfold f_Pool_admit_129 at h
  refine px_ld rfl rfl rfl rfl rfl ?_
  refine px_ld rfl rfl rfl rfl rfl ?_
  obtain ⟨ph1, h0, h⟩ := xs_some h
  obtain ⟨fs, e1, e2, e3⟩ := xpI_some h0
  subst e3
  refine px_put rfl e1 e2 trivial rfl ?_
  refine px_ld rfl rfl rfl rfl rfl ?_
  obtain ⟨t2, h0, h⟩ := xs_some h
  obtain ⟨fs, e1, e2⟩ := xgI_some h0
  refine px_get rfl e1 e2 rfl ?_
  refine px_ld rfl rfl rfl rfl rfl ?_
  obtain ⟨t3, h0, h⟩ := xs_some h
  obtain ⟨fs, e1, e2⟩ := xgR_some h0
  refine px_get rfl e1 e2 rfl ?_
  obtain ⟨t4, h0, h⟩ := xs_some h
  obtain ⟨x, e1, e3⟩ := xal_some h0
  subst e3
  refine px_alen rfl e1 rfl rfl ?_
  refine px_icge rfl (by decide) rfl (fun hc => ?_) (fun hc => ?_)
  · replace h := (if_pos hc).symm.trans h
    refine px_forget (n := 0) (lv' := [_, _, _, _, _]) rfl ?_
    refine px_forget (n := 1) (lv' := [_, _, _, _, _]) rfl ?_
    refine px_forget (n := 2) (lv' := [_, _, _, _, _]) rfl ?_
    refine px_forget (n := 3) (lv' := [_, _, _, _, _]) rfl ?_
    exact (r_Pool_admit_186 h :)
  · replace h := (if_neg hc).symm.trans h
    refine px_ld rfl rfl rfl rfl rfl ?_
    obtain ⟨t5, h0, h⟩ := xs_some h
    obtain ⟨fs, e1, e2⟩ := xgR_some h0
    refine px_get rfl e1 e2 rfl ?_
    refine px_ld rfl rfl rfl rfl rfl ?_
    obtain ⟨t6, h0, h⟩ := xs_some h
    obtain ⟨fs, e1, e2⟩ := xgI_some h0
    refine px_get rfl e1 e2 rfl ?_
    refine px_ld rfl rfl rfl rfl rfl ?_
    obtain ⟨ph7, h0, h⟩ := xs_some h
    obtain ⟨N, f, e1, e2, e3⟩ := xsI_some h0
    subst e3
    refine px_iast rfl e1 rfl e2 rfl ?_
    refine px_ld rfl rfl rfl rfl rfl ?_
    obtain ⟨t8, h0, h⟩ := xs_some h
    obtain ⟨fs, e1, e2⟩ := xgR_some h0
    refine px_get rfl e1 e2 rfl ?_
    refine px_ld rfl rfl rfl rfl rfl ?_
    obtain ⟨t9, h0, h⟩ := xs_some h
    obtain ⟨fs, e1, e2⟩ := xgI_some h0
    refine px_get rfl e1 e2 rfl ?_
    refine px_ld rfl rfl rfl rfl rfl ?_
    obtain ⟨ph10, h0, h⟩ := xs_some h
    obtain ⟨N, f, e1, e2, e3⟩ := xsI_some h0
    subst e3
    refine px_iast rfl e1 rfl e2 rfl ?_
    refine px_ld rfl rfl rfl rfl rfl ?_
    refine px_alu rfl rfl rfl ?_
    obtain ⟨t11, h0, h⟩ := xs_some h
    obtain ⟨fs, e1, e2⟩ := xgI_some h0
    refine px_get rfl e1 e2 rfl ?_
    refine px_ic (k := 1) rfl rfl rfl ?_
    refine px_alu rfl rfl rfl ?_
    obtain ⟨ph12, h0, h⟩ := xs_some h
    obtain ⟨fs, e1, e2, e3⟩ := xpI_some h0
    subst e3
    refine px_put rfl e1 e2 trivial rfl ?_
    refine px_ld rfl rfl rfl rfl rfl ?_
    refine px_alu rfl rfl rfl ?_
    obtain ⟨t13, h0, h⟩ := xs_some h
    obtain ⟨fs, e1, e2⟩ := xgI_some h0
    refine px_get rfl e1 e2 rfl ?_
    refine px_ld rfl rfl rfl rfl rfl ?_
    refine px_alu rfl rfl rfl ?_
    obtain ⟨ph14, h0, h⟩ := xs_some h
    obtain ⟨fs, e1, e2, e3⟩ := xpI_some h0
    subst e3
    refine px_put rfl e1 e2 trivial rfl ?_
    refine px_forget (n := 0) (lv' := [_, _, _, _, _]) rfl ?_
    refine px_forget (n := 1) (lv' := [_, _, _, _, _]) rfl ?_
    refine px_forget (n := 2) (lv' := [_, _, _, _, _]) rfl ?_
    refine px_forget (n := 3) (lv' := [_, _, _, _, _]) rfl ?_
    exact (r_Pool_admit_186 h :)
def f_Pool_admit_123 (F : Nat) (c : px_CT) (k43 : Nat → Int32 → Int32 → Int32 → Int32 → px_H → Option (Unit × px_H)) (a0 : Nat) (a1 : Int32) (a2 : Int32) (a3 : Int32) (a4 : Int32) (ph : px_H) : Option (Unit × px_H) :=
  k43 a0 a1 a2 a3 (a4 + nI 1) ph
theorem r_Pool_admit_123 {l : Launch} {g : px_G} {d F : Nat} {k43 : Nat → Int32 → Int32 → Int32 → Int32 → px_H → Option (Unit × px_H)} (hk43 : ∀ {a0 : Nat} {a1 : Int32} {a2 : Int32} {a3 : Int32} {a4 : Int32} {ph : px_H} {r : Unit} {ph' : px_H}, k43 a0 a1 a2 a3 a4 ph = some (r, ph') → PW l g (d + 1) m_Pool_admit 43 [.ref a0, .int a1, .int a2, .int a3, .int a4] [] ph (px_qV r ph')) {a0 : Nat} {a1 : Int32} {a2 : Int32} {a3 : Int32} {a4 : Int32} {ph : px_H} {r : Unit} {ph' : px_H} (h : f_Pool_admit_123 F (px_ct g) k43 a0 a1 a2 a3 a4 ph = some (r, ph')) : PW l g (d + 1) m_Pool_admit 123 [.ref a0, .int a1, .int a2, .int a3, .int a4] [] ph (px_qV r ph') := by
  unfold f_Pool_admit_123 at h
  refine px_iinc (lv' := [_, _, _, _, _]) rfl rfl rfl rfl rfl rfl ?_
  refine px_goto rfl (by decide) rfl ?_
  exact (hk43 h :)
def f_Pool_admit_43 (F : Nat) (c : px_CT) : Nat → Nat → Int32 → Int32 → Int32 → Int32 → px_H → Option (Unit × px_H)
  | 0, _, _, _, _, _, _ => none
  | n + 1, a0, a1, a2, a3, a4, ph =>
    (xgI ph 9 3 a0).bind fun t1 =>
    if t1 ≤ a4 then
      f_Pool_admit_129 F c a0 a1 a2 a3 ph
    else
      (xgR ph 9 1 a0).bind fun t2 =>
      (xaI ph 1 t2 a4).bind fun t3 =>
      (xgR ph 9 2 a0).bind fun t4 =>
      (xaI ph 1 t4 a4).bind fun t5 =>
      (xo ph 9 a0).bind fun _ =>
      xb (f_Pool_isEnd F c a0 t3 t5 a1 a2 ph) fun t6 ph7 =>
      if t6 = 0 then
        (xgR ph7 9 1 a0).bind fun t12 =>
        (xgR ph7 9 1 a0).bind fun t13 =>
        (xaI ph7 1 t13 a4).bind fun t14 =>
        (xsI ph7 1 t12 a3 t14).bind fun ph15 =>
        (xgR ph15 9 2 a0).bind fun t16 =>
        (xgR ph15 9 2 a0).bind fun t17 =>
        (xaI ph15 1 t17 a4).bind fun t18 =>
        (xsI ph15 1 t16 a3 t18).bind fun ph19 =>
        f_Pool_admit_123 F c (f_Pool_admit_43 F c n) a0 a1 a2 (a3 + nI 1) a4 ph19
      else
        (xgI ph7 9 4 a0).bind fun t8 =>
        (xgR ph7 9 2 a0).bind fun t9 =>
        (xaI ph7 1 t9 a4).bind fun t10 =>
        (xpI ph7 9 4 a0 (t8 - t10)).bind fun ph11 =>
        f_Pool_admit_123 F c (f_Pool_admit_43 F c n) a0 a1 a2 a3 a4 ph11
theorem r_Pool_admit_43 {l : Launch} {g : px_G} {d F : Nat} : ∀ (n : Nat) {a0 : Nat} {a1 : Int32} {a2 : Int32} {a3 : Int32} {a4 : Int32} {ph : px_H} {r : Unit} {ph' : px_H}, f_Pool_admit_43 F (px_ct g) n a0 a1 a2 a3 a4 ph = some (r, ph') → PW l g (d + 1) m_Pool_admit 43 [.ref a0, .int a1, .int a2, .int a3, .int a4] [] ph (px_qV r ph') := by
  intro n
  induction n with
  | zero => intro _ _ _ _ _ _ _ _ h; cases h
  | succ n ih =>
    intro a0 a1 a2 a3 a4 ph r ph' h
    unfold f_Pool_admit_43 at h
    refine px_ld rfl rfl rfl rfl rfl ?_
    refine px_ld rfl rfl rfl rfl rfl ?_
    obtain ⟨t1, h0, h⟩ := xs_some h
    obtain ⟨fs, e1, e2⟩ := xgI_some h0
    refine px_get rfl e1 e2 rfl ?_
    refine px_icge rfl (by decide) rfl (fun hc => ?_) (fun hc => ?_)
    · replace h := (if_pos hc).symm.trans h
      refine px_forget (n := 4) (lv' := [_, _, _, _, _]) rfl ?_
      exact (r_Pool_admit_129 h :)
    · replace h := (if_neg hc).symm.trans h
      refine px_ld rfl rfl rfl rfl rfl ?_
      refine px_ld rfl rfl rfl rfl rfl ?_
      obtain ⟨t2, h0, h⟩ := xs_some h
      obtain ⟨fs, e1, e2⟩ := xgR_some h0
      refine px_get rfl e1 e2 rfl ?_
      refine px_ld rfl rfl rfl rfl rfl ?_
      obtain ⟨t3, h0, h⟩ := xs_some h
      obtain ⟨N, f, e1, e2, e3⟩ := xaI_some h0
      subst e3
      refine px_iald rfl e1 rfl e2 rfl ?_
      refine px_ld rfl rfl rfl rfl rfl ?_
      obtain ⟨t4, h0, h⟩ := xs_some h
      obtain ⟨fs, e1, e2⟩ := xgR_some h0
      refine px_get rfl e1 e2 rfl ?_
      refine px_ld rfl rfl rfl rfl rfl ?_
      obtain ⟨t5, h0, h⟩ := xs_some h
      obtain ⟨N, f, e1, e2, e3⟩ := xaI_some h0
      subst e3
      refine px_iald rfl e1 rfl e2 rfl ?_
      refine px_ld rfl rfl rfl rfl rfl ?_
      refine px_ld rfl rfl rfl rfl rfl ?_
      obtain ⟨fs, h0, h⟩ := xs_some h
      have e1 := xo_some h0
      obtain ⟨t6, ph7, h0, h⟩ := xb_some h
      refine px_cV4 rfl rfl e1 rfl rfl rfl rfl rfl rfl rfl (r_Pool_isEnd h0 :) (fun _ _ q => nomatch q.2) (fun r ph' q => ?_)
      obtain ⟨rfl, q⟩ := q
      cases q
      refine px_ifne rfl (by decide) rfl (fun hc => ?_) (fun hc => ?_)
      · replace h := (if_neg hc).symm.trans h
        refine px_ld rfl rfl rfl rfl rfl ?_
        refine px_alu rfl rfl rfl ?_
        obtain ⟨t8, h0, h⟩ := xs_some h
        obtain ⟨fs, e1, e2⟩ := xgI_some h0
        refine px_get rfl e1 e2 rfl ?_
        refine px_ld rfl rfl rfl rfl rfl ?_
        obtain ⟨t9, h0, h⟩ := xs_some h
        obtain ⟨fs, e1, e2⟩ := xgR_some h0
        refine px_get rfl e1 e2 rfl ?_
        refine px_ld rfl rfl rfl rfl rfl ?_
        obtain ⟨t10, h0, h⟩ := xs_some h
        obtain ⟨N, f, e1, e2, e3⟩ := xaI_some h0
        subst e3
        refine px_iald rfl e1 rfl e2 rfl ?_
        refine px_alu rfl rfl rfl ?_
        obtain ⟨ph11, h0, h⟩ := xs_some h
        obtain ⟨fs, e1, e2, e3⟩ := xpI_some h0
        subst e3
        refine px_put rfl e1 e2 trivial rfl ?_
        exact (r_Pool_admit_123 @ih h :)
      · replace h := (if_pos hc).symm.trans h
        refine px_ld rfl rfl rfl rfl rfl ?_
        obtain ⟨t12, h0, h⟩ := xs_some h
        obtain ⟨fs, e1, e2⟩ := xgR_some h0
        refine px_get rfl e1 e2 rfl ?_
        refine px_ld rfl rfl rfl rfl rfl ?_
        refine px_ld rfl rfl rfl rfl rfl ?_
        obtain ⟨t13, h0, h⟩ := xs_some h
        obtain ⟨fs, e1, e2⟩ := xgR_some h0
        refine px_get rfl e1 e2 rfl ?_
        refine px_ld rfl rfl rfl rfl rfl ?_
        obtain ⟨t14, h0, h⟩ := xs_some h
        obtain ⟨N, f, e1, e2, e3⟩ := xaI_some h0
        subst e3
        refine px_iald rfl e1 rfl e2 rfl ?_
        obtain ⟨ph15, h0, h⟩ := xs_some h
        obtain ⟨N, f, e1, e2, e3⟩ := xsI_some h0
        subst e3
        refine px_iast rfl e1 rfl e2 rfl ?_
        refine px_ld rfl rfl rfl rfl rfl ?_
        obtain ⟨t16, h0, h⟩ := xs_some h
        obtain ⟨fs, e1, e2⟩ := xgR_some h0
        refine px_get rfl e1 e2 rfl ?_
        refine px_ld rfl rfl rfl rfl rfl ?_
        refine px_ld rfl rfl rfl rfl rfl ?_
        obtain ⟨t17, h0, h⟩ := xs_some h
        obtain ⟨fs, e1, e2⟩ := xgR_some h0
        refine px_get rfl e1 e2 rfl ?_
        refine px_ld rfl rfl rfl rfl rfl ?_
        obtain ⟨t18, h0, h⟩ := xs_some h
        obtain ⟨N, f, e1, e2, e3⟩ := xaI_some h0
        subst e3
        refine px_iald rfl e1 rfl e2 rfl ?_
        obtain ⟨ph19, h0, h⟩ := xs_some h
        obtain ⟨N, f, e1, e2, e3⟩ := xsI_some h0
        subst e3
        refine px_iast rfl e1 rfl e2 rfl ?_
        refine px_iinc (lv' := [_, _, _, _, _]) rfl rfl rfl rfl rfl rfl ?_
        refine px_goto rfl (by decide) rfl ?_
        exact (r_Pool_admit_123 @ih h :)
def f_Pool_admit_38 (F : Nat) (c : px_CT) (a0 : Nat) (a1 : Int32) (a2 : Int32) (ph : px_H) : Option (Unit × px_H) :=
  f_Pool_admit_43 F c F a0 a1 a2 (nI 0) (nI 0) ph
theorem r_Pool_admit_38 {l : Launch} {g : px_G} {d F : Nat} {a0 : Nat} {a1 : Int32} {a2 : Int32} {ph : px_H} {r : Unit} {ph' : px_H} (h : f_Pool_admit_38 F (px_ct g) a0 a1 a2 ph = some (r, ph')) : PW l g (d + 1) m_Pool_admit 38 [.ref a0, .int a1, .int a2, px_u, px_u] [] ph (px_qV r ph') := by
  unfold f_Pool_admit_38 at h
  refine px_ic (k := 0) rfl rfl rfl ?_
  refine px_st (lv' := [_, _, _, _, _]) rfl rfl rfl rfl rfl rfl rfl ?_
  refine px_ic (k := 0) rfl rfl rfl ?_
  refine px_st (lv' := [_, _, _, _, _]) rfl rfl rfl rfl rfl rfl rfl ?_
  exact (r_Pool_admit_43 _ h :)
def f_Pool_admit_31 (F : Nat) (c : px_CT) (ph : px_H) : Option (Unit × px_H) :=
  some ((), ph)
theorem r_Pool_admit_31 {l : Launch} {g : px_G} {d F : Nat} {ph : px_H} {r : Unit} {ph' : px_H} (h : f_Pool_admit_31 F (px_ct g) ph = some (r, ph')) : PW l g (d + 1) m_Pool_admit 31 [px_u, px_u, px_u, px_u, px_u] [] ph (px_qV r ph') := by
  unfold f_Pool_admit_31 at h
  cases h
  exact px_vret rfl rfl rfl ⟨rfl, rfl⟩
def f_Pool_admit_2 (F : Nat) (c : px_CT) : Nat → Nat → Int32 → Int32 → Int32 → px_H → Option (Unit × px_H)
  | 0, _, _, _, _, _ => none
  | n + 1, a0, a1, a2, a3, ph =>
    (xgI ph 9 3 a0).bind fun t1 =>
    if t1 ≤ a3 then
      f_Pool_admit_38 F c a0 a1 a2 ph
    else
      (xgR ph 9 1 a0).bind fun t2 =>
      (xaI ph 1 t2 a3).bind fun t3 =>
      (xgR ph 9 2 a0).bind fun t4 =>
      (xaI ph 1 t4 a3).bind fun t5 =>
      (xo ph 9 a0).bind fun _ =>
      xb (f_Pool_isEnd F c a0 a1 a2 t3 t5 ph) fun t6 ph7 =>
      if t6 = 0 then
        f_Pool_admit_2 F c n a0 a1 a2 (a3 + nI 1) ph7
      else
        f_Pool_admit_31 F c ph7
theorem r_Pool_admit_2 {l : Launch} {g : px_G} {d F : Nat} : ∀ (n : Nat) {a0 : Nat} {a1 : Int32} {a2 : Int32} {a3 : Int32} {ph : px_H} {r : Unit} {ph' : px_H}, f_Pool_admit_2 F (px_ct g) n a0 a1 a2 a3 ph = some (r, ph') → PW l g (d + 1) m_Pool_admit 2 [.ref a0, .int a1, .int a2, .int a3, px_u] [] ph (px_qV r ph') := by
  intro n
  induction n with
  | zero => intro _ _ _ _ _ _ _ h; cases h
  | succ n ih =>
    intro a0 a1 a2 a3 ph r ph' h
    unfold f_Pool_admit_2 at h
    refine px_ld rfl rfl rfl rfl rfl ?_
    refine px_ld rfl rfl rfl rfl rfl ?_
    obtain ⟨t1, h0, h⟩ := xs_some h
    obtain ⟨fs, e1, e2⟩ := xgI_some h0
    refine px_get rfl e1 e2 rfl ?_
    refine px_icge rfl (by decide) rfl (fun hc => ?_) (fun hc => ?_)
    · replace h := (if_pos hc).symm.trans h
      refine px_forget (n := 3) (lv' := [_, _, _, _, _]) rfl ?_
      exact (r_Pool_admit_38 h :)
    · replace h := (if_neg hc).symm.trans h
      refine px_ld rfl rfl rfl rfl rfl ?_
      refine px_ld rfl rfl rfl rfl rfl ?_
      refine px_ld rfl rfl rfl rfl rfl ?_
      refine px_ld rfl rfl rfl rfl rfl ?_
      obtain ⟨t2, h0, h⟩ := xs_some h
      obtain ⟨fs, e1, e2⟩ := xgR_some h0
      refine px_get rfl e1 e2 rfl ?_
      refine px_ld rfl rfl rfl rfl rfl ?_
      obtain ⟨t3, h0, h⟩ := xs_some h
      obtain ⟨N, f, e1, e2, e3⟩ := xaI_some h0
      subst e3
      refine px_iald rfl e1 rfl e2 rfl ?_
      refine px_ld rfl rfl rfl rfl rfl ?_
      obtain ⟨t4, h0, h⟩ := xs_some h
      obtain ⟨fs, e1, e2⟩ := xgR_some h0
      refine px_get rfl e1 e2 rfl ?_
      refine px_ld rfl rfl rfl rfl rfl ?_
      obtain ⟨t5, h0, h⟩ := xs_some h
      obtain ⟨N, f, e1, e2, e3⟩ := xaI_some h0
      subst e3
      refine px_iald rfl e1 rfl e2 rfl ?_
      obtain ⟨fs, h0, h⟩ := xs_some h
      have e1 := xo_some h0
      obtain ⟨t6, ph7, h0, h⟩ := xb_some h
      refine px_cV4 rfl rfl e1 rfl rfl rfl rfl rfl rfl rfl (r_Pool_isEnd h0 :) (fun _ _ q => nomatch q.2) (fun r ph' q => ?_)
      obtain ⟨rfl, q⟩ := q
      cases q
      refine px_ifeq rfl (by decide) rfl (fun hc => ?_) (fun hc => ?_)
      · replace h := (if_pos hc).symm.trans h
        refine px_iinc (lv' := [_, _, _, _, _]) rfl rfl rfl rfl rfl rfl ?_
        refine px_goto rfl (by decide) rfl ?_
        exact (ih h :)
      · replace h := (if_neg hc).symm.trans h
        refine px_forget (n := 0) (lv' := [_, _, _, _, _]) rfl ?_
        refine px_forget (n := 1) (lv' := [_, _, _, _, _]) rfl ?_
        refine px_forget (n := 2) (lv' := [_, _, _, _, _]) rfl ?_
        refine px_forget (n := 3) (lv' := [_, _, _, _, _]) rfl ?_
        exact (r_Pool_admit_31 h :)
def f_Pool_admit (F : Nat) (c : px_CT) (a0 : Nat) (a1 : Int32) (a2 : Int32) (ph : px_H) : Option (Unit × px_H) :=
  f_Pool_admit_2 F c F a0 a1 a2 (nI 0) ph
theorem r_Pool_admit {l : Launch} {g : px_G} {d F : Nat} {a0 : Nat} {a1 : Int32} {a2 : Int32} {ph : px_H} {r : Unit} {ph' : px_H} (h : f_Pool_admit F (px_ct g) a0 a1 a2 ph = some (r, ph')) : PW l g (d + 1) m_Pool_admit 0 [.ref a0, .int a1, .int a2, px_u, px_u] [] ph (px_qV r ph') := by
  unfold f_Pool_admit at h
  refine px_ic (k := 0) rfl rfl rfl ?_
  refine px_st (lv' := [_, _, _, _, _]) rfl rfl rfl rfl rfl rfl rfl ?_
  exact (r_Pool_admit_2 _ h :)
def f_Pool_collect_61 (F : Nat) (c : px_CT) (ph : px_H) : Option (Unit × px_H) :=
  some ((), ph)
theorem r_Pool_collect_61 {l : Launch} {g : px_G} {d F : Nat} {ph : px_H} {r : Unit} {ph' : px_H} (h : f_Pool_collect_61 F (px_ct g) ph = some (r, ph')) : PW l g (d + 2) m_Pool_collect 61 [px_u, px_u, px_u, px_u, px_u] [] ph (px_qV r ph') := by
  unfold f_Pool_collect_61 at h
  cases h
  exact px_vret rfl rfl rfl ⟨rfl, rfl⟩
def f_Pool_collect_55 (F : Nat) (c : px_CT) (k21 : Nat → Int32 → Int32 → Int32 → px_H → Option (Unit × px_H)) (a0 : Nat) (a2 : Int32) (a3 : Int32) (a4 : Int32) (ph : px_H) : Option (Unit × px_H) :=
  k21 a0 a2 a3 (a4 + nI 1) ph
theorem r_Pool_collect_55 {l : Launch} {g : px_G} {d F : Nat} {k21 : Nat → Int32 → Int32 → Int32 → px_H → Option (Unit × px_H)} (hk21 : ∀ {a0 : Nat} {a2 : Int32} {a3 : Int32} {a4 : Int32} {ph : px_H} {r : Unit} {ph' : px_H}, k21 a0 a2 a3 a4 ph = some (r, ph') → PW l g (d + 2) m_Pool_collect 21 [.ref a0, px_u, .int a2, .int a3, .int a4] [] ph (px_qV r ph')) {a0 : Nat} {a2 : Int32} {a3 : Int32} {a4 : Int32} {ph : px_H} {r : Unit} {ph' : px_H} (h : f_Pool_collect_55 F (px_ct g) k21 a0 a2 a3 a4 ph = some (r, ph')) : PW l g (d + 2) m_Pool_collect 55 [.ref a0, px_u, .int a2, .int a3, .int a4] [] ph (px_qV r ph') := by
  unfold f_Pool_collect_55 at h
  refine px_iinc (lv' := [_, _, _, _, _]) rfl rfl rfl rfl rfl rfl ?_
  refine px_goto rfl rfl rfl ?_
  exact (hk21 h :)
def f_Pool_collect_21 (F : Nat) (c : px_CT) : Nat → Nat → Int32 → Int32 → Int32 → px_H → Option (Unit × px_H)
  | 0, _, _, _, _, _ => none
  | n + 1, a0, a2, a3, a4, ph =>
    if a3 ≤ a4 then
      f_Pool_collect_61 F c ph
    else
      (xgR ph 9 0 a0).bind fun t1 =>
      (xo ph 10 t1).bind fun _ =>
      xb (f_Row_at F c t1 a4 ph) fun t2 ph3 =>
      if t2 = 0 then
        (xo ph3 9 a0).bind fun _ =>
        xb (f_Pool_admit F c a0 a2 ((a4 + (nI 1)) - a2) ph3) fun _ ph4 =>
        f_Pool_collect_55 F c (f_Pool_collect_21 F c n) a0 (a4 + (nI 1)) a3 a4 ph4
      else
        f_Pool_collect_55 F c (f_Pool_collect_21 F c n) a0 a2 a3 a4 ph3
theorem r_Pool_collect_21 {l : Launch} {g : px_G} {d F : Nat} : ∀ (n : Nat) {a0 : Nat} {a2 : Int32} {a3 : Int32} {a4 : Int32} {ph : px_H} {r : Unit} {ph' : px_H}, f_Pool_collect_21 F (px_ct g) n a0 a2 a3 a4 ph = some (r, ph') → PW l g (d + 2) m_Pool_collect 21 [.ref a0, px_u, .int a2, .int a3, .int a4] [] ph (px_qV r ph') := by
  intro n
  induction n with
  | zero => intro _ _ _ _ _ _ _ h; cases h
  | succ n ih =>
    intro a0 a2 a3 a4 ph r ph' h
    unfold f_Pool_collect_21 at h
    refine px_ld rfl rfl rfl rfl rfl ?_
    refine px_ld rfl rfl rfl rfl rfl ?_
    refine px_icge rfl rfl rfl (fun hc => ?_) (fun hc => ?_)
    · replace h := (if_pos hc).symm.trans h
      refine px_forget (n := 0) (lv' := [_, _, _, _, _]) rfl ?_
      refine px_forget (n := 2) (lv' := [_, _, _, _, _]) rfl ?_
      refine px_forget (n := 3) (lv' := [_, _, _, _, _]) rfl ?_
      refine px_forget (n := 4) (lv' := [_, _, _, _, _]) rfl ?_
      exact (r_Pool_collect_61 h :)
    · replace h := (if_neg hc).symm.trans h
      refine px_ld rfl rfl rfl rfl rfl ?_
      obtain ⟨t1, h0, h⟩ := xs_some h
      obtain ⟨fs, e1, e2⟩ := xgR_some h0
      refine px_get rfl e1 e2 rfl ?_
      refine px_ld rfl rfl rfl rfl rfl ?_
      obtain ⟨fs, h0, h⟩ := xs_some h
      have e1 := xo_some h0
      obtain ⟨t2, ph3, h0, h⟩ := xb_some h
      refine px_cV1 rfl rfl e1 rfl rfl rfl rfl rfl rfl rfl (r_Row_at h0 :) (fun _ _ q => nomatch q.2) (fun r ph' q => ?_)
      obtain ⟨rfl, q⟩ := q
      cases q
      refine px_ifne rfl rfl rfl (fun hc => ?_) (fun hc => ?_)
      · replace h := (if_neg hc).symm.trans h
        exact (r_Pool_collect_55 @ih h :)
      · replace h := (if_pos hc).symm.trans h
        refine px_ld rfl rfl rfl rfl rfl ?_
        refine px_ld rfl rfl rfl rfl rfl ?_
        refine px_ld rfl rfl rfl rfl rfl ?_
        refine px_ic (k := 1) rfl rfl rfl ?_
        refine px_alu rfl rfl rfl ?_
        refine px_ld rfl rfl rfl rfl rfl ?_
        refine px_alu rfl rfl rfl ?_
        obtain ⟨fs, h0, h⟩ := xs_some h
        have e1 := xo_some h0
        obtain ⟨u0, ph4, h0, h⟩ := xb_some h
        refine px_cV2 rfl rfl e1 rfl rfl rfl rfl rfl rfl rfl (r_Pool_admit h0 :) (fun _ _ q => nomatch q.2) (fun r ph' q => ?_)
        obtain ⟨rfl, q⟩ := q
        cases q
        refine px_ld rfl rfl rfl rfl rfl ?_
        refine px_ic (k := 1) rfl rfl rfl ?_
        refine px_alu rfl rfl rfl ?_
        refine px_st (lv' := [_, _, _, _, _]) rfl rfl rfl rfl rfl rfl rfl ?_
        exact (r_Pool_collect_55 @ih h :)
def f_Pool_collect (F : Nat) (c : px_CT) (a0 : Nat) (a1 : Option Nat) (ph : px_H) : Option (Unit × px_H) :=
  (a1).bind fun p1 =>
  (xgI ph 8 7 p1).bind fun t2 =>
  (xgI ph 8 7 p1).bind fun t3 =>
  (xgI ph 8 5 p1).bind fun t4 =>
  (xgI ph 8 7 p1).bind fun t5 =>
  f_Pool_collect_21 F c F a0 t2 (t3 + t4) t5 ph
theorem r_Pool_collect {l : Launch} {g : px_G} {d F : Nat} {a0 : Nat} {a1 : Option Nat} {ph : px_H} {r : Unit} {ph' : px_H} (h : f_Pool_collect F (px_ct g) a0 a1 ph = some (r, ph')) : PW l g (d + 2) m_Pool_collect 0 [.ref a0, va_rf a1, px_u, px_u, px_u] [] ph (px_qV r ph') := by
  unfold f_Pool_collect at h
  refine px_ld rfl rfl rfl (by first | rfl | (cases a1 <;> rfl)) rfl ?_
  obtain ⟨p1, h0, h⟩ := xs_some h
  revert h
  subst h0
  intro h
  obtain ⟨t2, h0, h⟩ := xs_some h
  obtain ⟨fs, e1, e2⟩ := xgI_some h0
  refine px_get rfl e1 e2 rfl ?_
  refine px_st (lv' := [_, _, _, _, _]) rfl rfl rfl rfl rfl rfl rfl ?_
  refine px_ld rfl rfl rfl rfl rfl ?_
  obtain ⟨t3, h0, h⟩ := xs_some h
  obtain ⟨fs, e1, e2⟩ := xgI_some h0
  refine px_get rfl e1 e2 rfl ?_
  refine px_ld rfl rfl rfl rfl rfl ?_
  obtain ⟨t4, h0, h⟩ := xs_some h
  obtain ⟨fs, e1, e2⟩ := xgI_some h0
  refine px_get rfl e1 e2 rfl ?_
  refine px_alu rfl rfl rfl ?_
  refine px_st (lv' := [_, _, _, _, _]) rfl rfl rfl rfl rfl rfl rfl ?_
  refine px_ld rfl rfl rfl rfl rfl ?_
  obtain ⟨t5, h0, h⟩ := xs_some h
  obtain ⟨fs, e1, e2⟩ := xgI_some h0
  refine px_get rfl e1 e2 rfl ?_
  refine px_st (lv' := [_, _, _, _, _]) rfl rfl rfl rfl rfl rfl rfl ?_
  refine px_forget (n := 1) (lv' := [_, _, _, _, _]) rfl ?_
  exact (r_Pool_collect_21 _ h :)
def f_Layout_gather_132 (F : Nat) (c : px_CT) (ph : px_H) : Option (Unit × px_H) :=
  some ((), ph)
theorem r_Layout_gather_132 {l : Launch} {g : px_G} {d F : Nat} {ph : px_H} {r : Unit} {ph' : px_H} (h : f_Layout_gather_132 F (px_ct g) ph = some (r, ph')) : PW l g (d + 3) m_Layout_gather 132 [px_u, px_u, px_u, px_u] [] ph (px_qV r ph') := by
  unfold f_Layout_gather_132 at h
  cases h
  exact px_vret rfl rfl rfl ⟨rfl, rfl⟩
def f_Layout_gather_126 (F : Nat) (c : px_CT) (k14 : Nat → Int32 → px_H → Option (Unit × px_H)) (a0 : Nat) (a1 : Int32) (ph : px_H) : Option (Unit × px_H) :=
  k14 a0 (a1 + nI 1) ph
theorem r_Layout_gather_126 {l : Launch} {g : px_G} {d F : Nat} {k14 : Nat → Int32 → px_H → Option (Unit × px_H)} (hk14 : ∀ {a0 : Nat} {a1 : Int32} {ph : px_H} {r : Unit} {ph' : px_H}, k14 a0 a1 ph = some (r, ph') → PW l g (d + 3) m_Layout_gather 14 [.ref a0, .int a1, px_u, px_u] [] ph (px_qV r ph')) {a0 : Nat} {a1 : Int32} {ph : px_H} {r : Unit} {ph' : px_H} (h : f_Layout_gather_126 F (px_ct g) k14 a0 a1 ph = some (r, ph')) : PW l g (d + 3) m_Layout_gather 126 [.ref a0, .int a1, px_u, px_u] [] ph (px_qV r ph') := by
  unfold f_Layout_gather_126 at h
  refine px_iinc (lv' := [_, _, _, _]) rfl rfl rfl rfl rfl rfl ?_
  refine px_goto rfl (by decide) rfl ?_
  exact (hk14 h :)
def f_Layout_gather_120 (F : Nat) (c : px_CT) (k14 : Nat → Int32 → px_H → Option (Unit × px_H)) (k24 : Nat → Int32 → Int32 → px_H → Option (Unit × px_H)) (a0 : Nat) (a1 : Int32) (a2 : Int32) (ph : px_H) : Option (Unit × px_H) :=
  k24 a0 a1 (a2 + nI 1) ph
theorem r_Layout_gather_120 {l : Launch} {g : px_G} {d F : Nat} {k14 : Nat → Int32 → px_H → Option (Unit × px_H)} (hk14 : ∀ {a0 : Nat} {a1 : Int32} {ph : px_H} {r : Unit} {ph' : px_H}, k14 a0 a1 ph = some (r, ph') → PW l g (d + 3) m_Layout_gather 14 [.ref a0, .int a1, px_u, px_u] [] ph (px_qV r ph')) {k24 : Nat → Int32 → Int32 → px_H → Option (Unit × px_H)} (hk24 : ∀ {a0 : Nat} {a1 : Int32} {a2 : Int32} {ph : px_H} {r : Unit} {ph' : px_H}, k24 a0 a1 a2 ph = some (r, ph') → PW l g (d + 3) m_Layout_gather 24 [.ref a0, .int a1, .int a2, px_u] [] ph (px_qV r ph')) {a0 : Nat} {a1 : Int32} {a2 : Int32} {ph : px_H} {r : Unit} {ph' : px_H} (h : f_Layout_gather_120 F (px_ct g) k14 k24 a0 a1 a2 ph = some (r, ph')) : PW l g (d + 3) m_Layout_gather 120 [.ref a0, .int a1, .int a2, px_u] [] ph (px_qV r ph') := by
  unfold f_Layout_gather_120 at h
  refine px_iinc (lv' := [_, _, _, _]) rfl rfl rfl rfl rfl rfl ?_
  refine px_goto rfl (by decide) rfl ?_
  exact (hk24 h :)
def f_Layout_gather_24 (F : Nat) (c : px_CT) (k14 : Nat → Int32 → px_H → Option (Unit × px_H)) : Nat → Nat → Int32 → Int32 → px_H → Option (Unit × px_H)
  | 0, _, _, _, _ => none
  | n + 1, a0, a1, a2, ph =>
    (xgR ph 2 0 a0).bind fun t1 =>
    (xgI ph 3 14 t1).bind fun t2 =>
    if (t2 * (nI 24)) ≤ a2 then
      f_Layout_gather_126 F c k14 a0 a1 ph
    else
      (xgR ph 2 0 a0).bind fun t3 =>
      (xo ph 3 t3).bind fun _ =>
      xb (f_Link_part F c t3 (a2 / (nI 24)) (a2 - a2 / (nI 24) * (nI 24)) ph) fun t4 ph5 =>
      (t4).bind fun p6 =>
      (xgI ph5 8 9 p6).bind fun t7 =>
      if t7 = 0 then
        f_Layout_gather_120 F c k14 (f_Layout_gather_24 F c k14 n) a0 a1 a2 ph5
      else
        (xgI ph5 8 4 p6).bind fun t8 =>
        (xkI c 4 a1).bind fun t9 =>
        if t8 = t9 then
          (xgI ph5 2 11 a0).bind fun t10 =>
          (xgR ph5 2 2 a0).bind fun t11 =>
          (xal ph5 6 t11).bind fun t12 =>
          if t12 ≤ t10 then
            f_Layout_gather_120 F c k14 (f_Layout_gather_24 F c k14 n) a0 a1 a2 ph5
          else
            (xgR ph5 2 2 a0).bind fun t13 =>
            (xgI ph5 2 11 a0).bind fun t14 =>
            (xsO ph5 6 8 t13 t14 (some p6)).bind fun ph15 =>
            (xgI ph15 2 11 a0).bind fun t16 =>
            (xpI ph15 2 11 a0 (t16 + (nI 1))).bind fun ph17 =>
            (xgI ph17 8 10 p6).bind fun t18 =>
            if t18 = 0 then
              f_Layout_gather_120 F c k14 (f_Layout_gather_24 F c k14 n) a0 a1 a2 ph17
            else
              (xgR ph17 2 1 a0).bind fun t19 =>
              (xo ph17 9 t19).bind fun _ =>
              xb (f_Pool_collect F c t19 (some p6) ph17) fun _ ph20 =>
              f_Layout_gather_120 F c k14 (f_Layout_gather_24 F c k14 n) a0 a1 a2 ph20
        else
          f_Layout_gather_120 F c k14 (f_Layout_gather_24 F c k14 n) a0 a1 a2 ph5
theorem r_Layout_gather_24 {l : Launch} {g : px_G} {d F : Nat} {k14 : Nat → Int32 → px_H → Option (Unit × px_H)} (hk14 : ∀ {a0 : Nat} {a1 : Int32} {ph : px_H} {r : Unit} {ph' : px_H}, k14 a0 a1 ph = some (r, ph') → PW l g (d + 3) m_Layout_gather 14 [.ref a0, .int a1, px_u, px_u] [] ph (px_qV r ph')) : ∀ (n : Nat) {a0 : Nat} {a1 : Int32} {a2 : Int32} {ph : px_H} {r : Unit} {ph' : px_H}, f_Layout_gather_24 F (px_ct g) k14 n a0 a1 a2 ph = some (r, ph') → PW l g (d + 3) m_Layout_gather 24 [.ref a0, .int a1, .int a2, px_u] [] ph (px_qV r ph') := by
  intro n
  induction n with
  | zero => intro _ _ _ _ _ _ h; cases h
  | succ n ih =>
    intro a0 a1 a2 ph r ph' h
    unfold f_Layout_gather_24 at h
    refine px_ld rfl rfl rfl rfl rfl ?_
    refine px_ld rfl rfl rfl rfl rfl ?_
    obtain ⟨t1, h0, h⟩ := xs_some h
    obtain ⟨fs, e1, e2⟩ := xgR_some h0
    refine px_get rfl e1 e2 rfl ?_
    obtain ⟨t2, h0, h⟩ := xs_some h
    obtain ⟨fs, e1, e2⟩ := xgI_some h0
    refine px_get rfl e1 e2 rfl ?_
    refine px_ic (k := 24) rfl rfl rfl ?_
    refine px_alu rfl rfl rfl ?_
    refine px_icge rfl (by decide) rfl (fun hc => ?_) (fun hc => ?_)
    · replace h := (if_pos hc).symm.trans h
      refine px_forget (n := 2) (lv' := [_, _, _, _]) rfl ?_
      exact (r_Layout_gather_126 @hk14 h :)
    · replace h := (if_neg hc).symm.trans h
      refine px_ld rfl rfl rfl rfl rfl ?_
      obtain ⟨t3, h0, h⟩ := xs_some h
      obtain ⟨fs, e1, e2⟩ := xgR_some h0
      refine px_get rfl e1 e2 rfl ?_
      refine px_ld rfl rfl rfl rfl rfl ?_
      refine px_ic (k := 24) rfl rfl rfl ?_
      refine px_idiv rfl (by decide) rfl ?_
      refine px_ld rfl rfl rfl rfl rfl ?_
      refine px_ic (k := 24) rfl rfl rfl ?_
      refine px_irem rfl (by decide) rfl ?_
      obtain ⟨fs, h0, h⟩ := xs_some h
      have e1 := xo_some h0
      obtain ⟨t4, ph5, h0, h⟩ := xb_some h
      refine px_cV2 rfl rfl e1 rfl rfl rfl rfl rfl rfl rfl (r_Link_part h0 :) (fun _ _ q => nomatch q.2) (fun r ph' q => ?_)
      obtain ⟨rfl, q⟩ := q
      cases q
      refine px_st (lv' := [.ref a0, .int a1, .int a2, va_rf t4]) rfl rfl (by first | rfl | (cases t4 <;> rfl)) (by first | rfl | (cases t4 <;> rfl)) rfl (by first | rfl | (cases t4 <;> rfl)) rfl ?_
      refine px_ld rfl rfl rfl (by first | rfl | (cases t4 <;> rfl)) rfl ?_
      obtain ⟨p6, h0, h⟩ := xs_some h
      revert h
      subst h0
      intro h
      obtain ⟨t7, h0, h⟩ := xs_some h
      obtain ⟨fs, e1, e2⟩ := xgI_some h0
      refine px_get rfl e1 e2 rfl ?_
      refine px_ifeq rfl (by decide) rfl (fun hc => ?_) (fun hc => ?_)
      · replace h := (if_pos hc).symm.trans h
        refine px_forget (n := 3) (lv' := [_, _, _, _]) rfl ?_
        exact (r_Layout_gather_120 @hk14 @ih h :)
      · replace h := (if_neg hc).symm.trans h
        refine px_ld rfl rfl rfl rfl rfl ?_
        obtain ⟨t8, h0, h⟩ := xs_some h
        obtain ⟨fs, e1, e2⟩ := xgI_some h0
        refine px_get rfl e1 e2 rfl ?_
        refine px_gets rfl rfl ?_
        refine px_ld rfl rfl rfl rfl rfl ?_
        obtain ⟨t9, h0, h⟩ := xs_some h
        obtain ⟨e0, e1, e2, e3⟩ := xkI_some h0
        subst e3
        refine px_cild rfl e0 e1 e2 rfl ?_
        refine px_icne rfl (by decide) rfl (fun hc => ?_) (fun hc => ?_)
        · replace h := (if_neg hc).symm.trans h
          refine px_forget (n := 3) (lv' := [_, _, _, _]) rfl ?_
          exact (r_Layout_gather_120 @hk14 @ih h :)
        · replace h := (if_pos hc).symm.trans h
          refine px_ld rfl rfl rfl rfl rfl ?_
          obtain ⟨t10, h0, h⟩ := xs_some h
          obtain ⟨fs, e1, e2⟩ := xgI_some h0
          refine px_get rfl e1 e2 rfl ?_
          refine px_ld rfl rfl rfl rfl rfl ?_
          obtain ⟨t11, h0, h⟩ := xs_some h
          obtain ⟨fs, e1, e2⟩ := xgR_some h0
          refine px_get rfl e1 e2 rfl ?_
          obtain ⟨t12, h0, h⟩ := xs_some h
          obtain ⟨x, e1, e3⟩ := xal_some h0
          subst e3
          refine px_alen rfl e1 rfl rfl ?_
          refine px_icge rfl (by decide) rfl (fun hc => ?_) (fun hc => ?_)
          · replace h := (if_pos hc).symm.trans h
            refine px_forget (n := 3) (lv' := [_, _, _, _]) rfl ?_
            exact (r_Layout_gather_120 @hk14 @ih h :)
          · replace h := (if_neg hc).symm.trans h
            refine px_ld rfl rfl rfl rfl rfl ?_
            obtain ⟨t13, h0, h⟩ := xs_some h
            obtain ⟨fs, e1, e2⟩ := xgR_some h0
            refine px_get rfl e1 e2 rfl ?_
            refine px_ld rfl rfl rfl rfl rfl ?_
            obtain ⟨t14, h0, h⟩ := xs_some h
            obtain ⟨fs, e1, e2⟩ := xgI_some h0
            refine px_get rfl e1 e2 rfl ?_
            refine px_ld rfl rfl rfl rfl rfl ?_
            obtain ⟨ph15, h0, h⟩ := xs_some h
            obtain ⟨N, f, e1, e2, e3, e4⟩ := xsO_some h0
            subst e3
            refine px_aastO (o := (some p6)) rfl e1 rfl e4 rfl e2 rfl ?_
            refine px_ld rfl rfl rfl rfl rfl ?_
            refine px_alu rfl rfl rfl ?_
            obtain ⟨t16, h0, h⟩ := xs_some h
            obtain ⟨fs, e1, e2⟩ := xgI_some h0
            refine px_get rfl e1 e2 rfl ?_
            refine px_ic (k := 1) rfl rfl rfl ?_
            refine px_alu rfl rfl rfl ?_
            obtain ⟨ph17, h0, h⟩ := xs_some h
            obtain ⟨fs, e1, e2, e3⟩ := xpI_some h0
            subst e3
            refine px_put rfl e1 e2 trivial rfl ?_
            refine px_ld rfl rfl rfl rfl rfl ?_
            obtain ⟨t18, h0, h⟩ := xs_some h
            obtain ⟨fs, e1, e2⟩ := xgI_some h0
            refine px_get rfl e1 e2 rfl ?_
            refine px_ifeq rfl (by decide) rfl (fun hc => ?_) (fun hc => ?_)
            · replace h := (if_pos hc).symm.trans h
              refine px_forget (n := 3) (lv' := [_, _, _, _]) rfl ?_
              exact (r_Layout_gather_120 @hk14 @ih h :)
            · replace h := (if_neg hc).symm.trans h
              refine px_ld rfl rfl rfl rfl rfl ?_
              obtain ⟨t19, h0, h⟩ := xs_some h
              obtain ⟨fs, e1, e2⟩ := xgR_some h0
              refine px_get rfl e1 e2 rfl ?_
              refine px_ld rfl rfl rfl rfl rfl ?_
              obtain ⟨fs, h0, h⟩ := xs_some h
              have e1 := xo_some h0
              obtain ⟨u0, ph20, h0, h⟩ := xb_some h
              refine px_cV1 rfl rfl e1 rfl rfl rfl rfl rfl rfl rfl (r_Pool_collect h0 :) (fun _ _ q => nomatch q.2) (fun r ph' q => ?_)
              obtain ⟨rfl, q⟩ := q
              cases q
              refine px_forget (n := 3) (lv' := [_, _, _, _]) rfl ?_
              exact (r_Layout_gather_120 @hk14 @ih h :)
def f_Layout_gather_14 (F : Nat) (c : px_CT) : Nat → Nat → Int32 → px_H → Option (Unit × px_H)
  | 0, _, _, _ => none
  | n + 1, a0, a1, ph =>
    (xkl c 4).bind fun t1 =>
    if t1 ≤ a1 then
      f_Layout_gather_132 F c ph
    else
      f_Layout_gather_24 F c (f_Layout_gather_14 F c n) F a0 a1 (nI 0) ph
theorem r_Layout_gather_14 {l : Launch} {g : px_G} {d F : Nat} : ∀ (n : Nat) {a0 : Nat} {a1 : Int32} {ph : px_H} {r : Unit} {ph' : px_H}, f_Layout_gather_14 F (px_ct g) n a0 a1 ph = some (r, ph') → PW l g (d + 3) m_Layout_gather 14 [.ref a0, .int a1, px_u, px_u] [] ph (px_qV r ph') := by
  intro n
  induction n with
  | zero => intro _ _ _ _ _ h; cases h
  | succ n ih =>
    intro a0 a1 ph r ph' h
    unfold f_Layout_gather_14 at h
    refine px_ld rfl rfl rfl rfl rfl ?_
    refine px_gets rfl rfl ?_
    obtain ⟨t1, h0, h⟩ := xs_some h
    obtain ⟨e0, e3⟩ := xkl_some h0
    subst e3
    refine px_clen rfl e0 rfl ?_
    refine px_icge rfl (by decide) rfl (fun hc => ?_) (fun hc => ?_)
    · replace h := (if_pos hc).symm.trans h
      refine px_forget (n := 0) (lv' := [_, _, _, _]) rfl ?_
      refine px_forget (n := 1) (lv' := [_, _, _, _]) rfl ?_
      exact (r_Layout_gather_132 h :)
    · replace h := (if_neg hc).symm.trans h
      refine px_ic (k := 0) rfl rfl rfl ?_
      refine px_st (lv' := [_, _, _, _]) rfl rfl rfl rfl rfl rfl rfl ?_
      exact (r_Layout_gather_24 @ih _ h :)
def f_Layout_gather (F : Nat) (c : px_CT) (a0 : Nat) (ph : px_H) : Option (Unit × px_H) :=
  (xpI ph 2 11 a0 (nI 0)).bind fun ph1 =>
  (xgR ph1 2 1 a0).bind fun t2 =>
  (xo ph1 9 t2).bind fun _ =>
  xb (f_Pool_clear F c t2 ph1) fun _ ph3 =>
  f_Layout_gather_14 F c F a0 (nI 0) ph3
theorem r_Layout_gather {l : Launch} {g : px_G} {d F : Nat} {a0 : Nat} {ph : px_H} {r : Unit} {ph' : px_H} (h : f_Layout_gather F (px_ct g) a0 ph = some (r, ph')) : PW l g (d + 3) m_Layout_gather 0 [.ref a0, px_u, px_u, px_u] [] ph (px_qV r ph') := by
  unfold f_Layout_gather at h
  refine px_ld rfl rfl rfl rfl rfl ?_
  refine px_ic (k := 0) rfl rfl rfl ?_
  obtain ⟨ph1, h0, h⟩ := xs_some h
  obtain ⟨fs, e1, e2, e3⟩ := xpI_some h0
  subst e3
  refine px_put rfl e1 e2 trivial rfl ?_
  refine px_ld rfl rfl rfl rfl rfl ?_
  obtain ⟨t2, h0, h⟩ := xs_some h
  obtain ⟨fs, e1, e2⟩ := xgR_some h0
  refine px_get rfl e1 e2 rfl ?_
  obtain ⟨fs, h0, h⟩ := xs_some h
  have e1 := xo_some h0
  obtain ⟨u0, ph3, h0, h⟩ := xb_some h
  refine px_cV0 rfl rfl e1 rfl rfl rfl rfl rfl rfl rfl (r_Pool_clear h0 :) (fun _ _ q => nomatch q.2) (fun r ph' q => ?_)
  obtain ⟨rfl, q⟩ := q
  cases q
  refine px_ic (k := 0) rfl rfl rfl ?_
  refine px_st (lv' := [_, _, _, _]) rfl rfl rfl rfl rfl rfl rfl ?_
  exact (r_Layout_gather_14 _ h :)
def f_Arrays_rangeCheck (F : Nat) (c : px_CT) (a0 : Int32) (a1 : Int32) (a2 : Int32) (ph : px_H) : Option (Unit × px_H) :=
  if a1 ≤ a2 then
    if 0 ≤ a1 then
      if a2 ≤ a0 then
        some ((), ph)
      else
        none
    else
      none
  else
    none
theorem r_Arrays_rangeCheck {l : Launch} {g : px_G} {d F : Nat} {a0 : Int32} {a1 : Int32} {a2 : Int32} {ph : px_H} {r : Unit} {ph' : px_H} (h : f_Arrays_rangeCheck F (px_ct g) a0 a1 a2 ph = some (r, ph')) : PW l g (d + 1) m_Arrays_rangeCheck 0 [.int a0, .int a1, .int a2] [] ph (px_qV r ph') := by
  unfold f_Arrays_rangeCheck at h
  refine px_ld rfl rfl rfl rfl rfl ?_
  refine px_ld rfl rfl rfl rfl rfl ?_
  refine px_icle rfl rfl rfl (fun hc => ?_) (fun hc => ?_)
  · replace h := (if_pos hc).symm.trans h
    refine px_ld rfl rfl rfl rfl rfl ?_
    refine px_ifge rfl rfl rfl (fun hc => ?_) (fun hc => ?_)
    · replace h := (if_pos hc).symm.trans h
      refine px_ld rfl rfl rfl rfl rfl ?_
      refine px_ld rfl rfl rfl rfl rfl ?_
      refine px_icle rfl rfl rfl (fun hc => ?_) (fun hc => ?_)
      · replace h := (if_pos hc).symm.trans h
        cases h
        exact px_vret rfl rfl rfl ⟨rfl, rfl⟩
      · replace h := (if_neg hc).symm.trans h
        cases h
    · replace h := (if_neg hc).symm.trans h
      cases h
  · replace h := (if_neg hc).symm.trans h
    cases h
def f_Arrays_fill_27 (F : Nat) (c : px_CT) (ph : px_H) : Option (Unit × px_H) :=
  some ((), ph)
theorem r_Arrays_fill_27 {l : Launch} {g : px_G} {d F : Nat} {ph : px_H} {r : Unit} {ph' : px_H} (h : f_Arrays_fill_27 F (px_ct g) ph = some (r, ph')) : PW l g (d + 2) m_Arrays_fill 27 [px_u, px_u, px_u, px_u, px_u] [] ph (px_qV r ph') := by
  unfold f_Arrays_fill_27 at h
  cases h
  exact px_vret rfl rfl rfl ⟨rfl, rfl⟩
def f_Arrays_fill_10 (F : Nat) (c : px_CT) : Nat → Nat → Int32 → Int32 → Int32 → px_H → Option (Unit × px_H)
  | 0, _, _, _, _, _ => none
  | n + 1, a0, a2, a3, a4, ph =>
    if a2 ≤ a4 then
      f_Arrays_fill_27 F c ph
    else
      (xsI ph 1 a0 a4 a3).bind fun ph1 =>
      f_Arrays_fill_10 F c n a0 a2 a3 (a4 + nI 1) ph1
theorem r_Arrays_fill_10 {l : Launch} {g : px_G} {d F : Nat} : ∀ (n : Nat) {a0 : Nat} {a2 : Int32} {a3 : Int32} {a4 : Int32} {ph : px_H} {r : Unit} {ph' : px_H}, f_Arrays_fill_10 F (px_ct g) n a0 a2 a3 a4 ph = some (r, ph') → PW l g (d + 2) m_Arrays_fill 10 [.ref a0, px_u, .int a2, .int a3, .int a4] [] ph (px_qV r ph') := by
  intro n
  induction n with
  | zero => intro _ _ _ _ _ _ _ h; cases h
  | succ n ih =>
    intro a0 a2 a3 a4 ph r ph' h
    unfold f_Arrays_fill_10 at h
    refine px_ld rfl rfl rfl rfl rfl ?_
    refine px_ld rfl rfl rfl rfl rfl ?_
    refine px_icge rfl rfl rfl (fun hc => ?_) (fun hc => ?_)
    · replace h := (if_pos hc).symm.trans h
      refine px_forget (n := 0) (lv' := [_, _, _, _, _]) rfl ?_
      refine px_forget (n := 2) (lv' := [_, _, _, _, _]) rfl ?_
      refine px_forget (n := 3) (lv' := [_, _, _, _, _]) rfl ?_
      refine px_forget (n := 4) (lv' := [_, _, _, _, _]) rfl ?_
      exact (r_Arrays_fill_27 h :)
    · replace h := (if_neg hc).symm.trans h
      refine px_ld rfl rfl rfl rfl rfl ?_
      refine px_ld rfl rfl rfl rfl rfl ?_
      refine px_ld rfl rfl rfl rfl rfl ?_
      obtain ⟨ph1, h0, h⟩ := xs_some h
      obtain ⟨N, f, e1, e2, e3⟩ := xsI_some h0
      subst e3
      refine px_iast rfl e1 rfl e2 rfl ?_
      refine px_iinc (lv' := [_, _, _, _, _]) rfl rfl rfl rfl rfl rfl ?_
      refine px_goto rfl rfl rfl ?_
      exact (ih h :)
def f_Arrays_fill (F : Nat) (c : px_CT) (a0 : Nat) (a1 : Int32) (a2 : Int32) (a3 : Int32) (ph : px_H) : Option (Unit × px_H) :=
  (xal ph 1 a0).bind fun t1 =>
  xb (f_Arrays_rangeCheck F c t1 a1 a2 ph) fun _ ph2 =>
  f_Arrays_fill_10 F c F a0 a2 a3 a1 ph2
theorem r_Arrays_fill {l : Launch} {g : px_G} {d F : Nat} {a0 : Nat} {a1 : Int32} {a2 : Int32} {a3 : Int32} {ph : px_H} {r : Unit} {ph' : px_H} (h : f_Arrays_fill F (px_ct g) a0 a1 a2 a3 ph = some (r, ph')) : PW l g (d + 2) m_Arrays_fill 0 [.ref a0, .int a1, .int a2, .int a3, px_u] [] ph (px_qV r ph') := by
  unfold f_Arrays_fill at h
  refine px_ld rfl rfl rfl rfl rfl ?_
  obtain ⟨t1, h0, h⟩ := xs_some h
  obtain ⟨x, e1, e3⟩ := xal_some h0
  subst e3
  refine px_alen rfl e1 rfl rfl ?_
  refine px_ld rfl rfl rfl rfl rfl ?_
  refine px_ld rfl rfl rfl rfl rfl ?_
  obtain ⟨u0, ph2, h0, h⟩ := xb_some h
  refine px_cS3 rfl rfl rfl rfl rfl rfl rfl (r_Arrays_rangeCheck h0 :) (fun _ _ q => nomatch q.2) (fun r ph' q => ?_)
  obtain ⟨rfl, q⟩ := q
  cases q
  refine px_ld rfl rfl rfl rfl rfl ?_
  refine px_st (lv' := [_, _, _, _, _]) rfl rfl rfl rfl rfl rfl rfl ?_
  refine px_forget (n := 1) (lv' := [_, _, _, _, _]) rfl ?_
  exact (r_Arrays_fill_10 _ h :)
def f_Link_stayingTarget_38 (F : Nat) (c : px_CT) (s0 : Option Nat) (ph : px_H) : Option (Option Nat × px_H) :=
  some (s0, ph)
theorem r_Link_stayingTarget_38 {l : Launch} {g : px_G} {d F : Nat} {s0 : Option Nat} {ph : px_H} {r : Option Nat} {ph' : px_H} (h : f_Link_stayingTarget_38 F (px_ct g) s0 ph = some (r, ph')) : PW l g (d + 3) m_Link_stayingTarget 38 [px_u, px_u, px_u, px_u, px_u] [va_rf s0] ph (px_qN r ph') := by
  unfold f_Link_stayingTarget_38 at h
  cases h
  exact px_aret rfl rfl (Or.inl ⟨_, rfl⟩) (by first | rfl | (cases s0 <;> rfl) | (cases r <;> rfl) | (cases s0 <;> cases r <;> rfl)) rfl ⟨rfl, rfl⟩
def f_Link_stayingTarget (F : Nat) (c : px_CT) (a0 : Nat) (a1 : Int32) (a2 : Int32) (ph : px_H) : Option (Option Nat × px_H) :=
  (xo ph 3 a0).bind fun _ =>
  xb (f_Link_object F c a0 a1 ph) fun t1 ph2 =>
  (t1).bind fun p3 =>
  (xo ph2 7 p3).bind fun _ =>
  xb (f_ObjectFile_targetOf F c p3 a2 ph2) fun t4 ph5 =>
  if 0 ≤ t4 then
    (xo ph5 3 a0).bind fun _ =>
    xb (f_Link_part F c a0 a1 t4 ph5) fun t6 ph7 =>
    (t6).bind fun p8 =>
    (xgI ph7 8 9 p8).bind fun t9 =>
    if t9 = 0 then
      f_Link_stayingTarget_38 F c none ph7
    else
      f_Link_stayingTarget_38 F c (some p8) ph7
  else
    some (none, ph5)
theorem r_Link_stayingTarget {l : Launch} {g : px_G} {d F : Nat} {a0 : Nat} {a1 : Int32} {a2 : Int32} {ph : px_H} {r : Option Nat} {ph' : px_H} (h : f_Link_stayingTarget F (px_ct g) a0 a1 a2 ph = some (r, ph')) : PW l g (d + 3) m_Link_stayingTarget 0 [.ref a0, .int a1, .int a2, px_u, px_u] [] ph (px_qN r ph') := by
  unfold f_Link_stayingTarget at h
  refine px_ld rfl rfl rfl rfl rfl ?_
  refine px_ld rfl rfl rfl rfl rfl ?_
  obtain ⟨fs, h0, h⟩ := xs_some h
  have e1 := xo_some h0
  obtain ⟨t1, ph2, h0, h⟩ := xb_some h
  refine px_cV1 rfl rfl e1 rfl rfl rfl rfl rfl rfl rfl (r_Link_object h0 :) (fun _ _ q => nomatch q.2) (fun r ph' q => ?_)
  obtain ⟨rfl, q⟩ := q
  cases q
  refine px_ld rfl rfl rfl rfl rfl ?_
  obtain ⟨p3, h0, h⟩ := xs_some h
  revert h
  subst h0
  intro h
  obtain ⟨fs, h0, h⟩ := xs_some h
  have e1 := xo_some h0
  obtain ⟨t4, ph5, h0, h⟩ := xb_some h
  refine px_cV1 rfl rfl e1 rfl rfl rfl rfl rfl rfl rfl (r_ObjectFile_targetOf h0 :) (fun _ _ q => nomatch q.2) (fun r ph' q => ?_)
  obtain ⟨rfl, q⟩ := q
  cases q
  refine px_st (lv' := [_, _, _, _, _]) rfl rfl rfl rfl rfl rfl rfl ?_
  refine px_ld rfl rfl rfl rfl rfl ?_
  refine px_ifge rfl rfl rfl (fun hc => ?_) (fun hc => ?_)
  · replace h := (if_pos hc).symm.trans h
    refine px_ld rfl rfl rfl rfl rfl ?_
    refine px_ld rfl rfl rfl rfl rfl ?_
    refine px_ld rfl rfl rfl rfl rfl ?_
    obtain ⟨fs, h0, h⟩ := xs_some h
    have e1 := xo_some h0
    obtain ⟨t6, ph7, h0, h⟩ := xb_some h
    refine px_cV2 rfl rfl e1 rfl rfl rfl rfl rfl rfl rfl (r_Link_part h0 :) (fun _ _ q => nomatch q.2) (fun r ph' q => ?_)
    obtain ⟨rfl, q⟩ := q
    cases q
    refine px_st (lv' := [.ref a0, .int a1, .int a2, .int t4, va_rf t6]) rfl rfl (by first | rfl | (cases t6 <;> rfl)) (by first | rfl | (cases t6 <;> rfl)) rfl (by first | rfl | (cases t6 <;> rfl)) rfl ?_
    refine px_ld rfl rfl rfl (by first | rfl | (cases t6 <;> rfl)) rfl ?_
    obtain ⟨p8, h0, h⟩ := xs_some h
    revert h
    subst h0
    intro h
    obtain ⟨t9, h0, h⟩ := xs_some h
    obtain ⟨fs, e1, e2⟩ := xgI_some h0
    refine px_get rfl e1 e2 rfl ?_
    refine px_ifeq rfl rfl rfl (fun hc => ?_) (fun hc => ?_)
    · replace h := (if_pos hc).symm.trans h
      refine px_alu rfl rfl rfl ?_
      refine px_forget (n := 0) (lv' := [_, _, _, _, _]) rfl ?_
      refine px_forget (n := 1) (lv' := [_, _, _, _, _]) rfl ?_
      refine px_forget (n := 2) (lv' := [_, _, _, _, _]) rfl ?_
      refine px_forget (n := 3) (lv' := [_, _, _, _, _]) rfl ?_
      refine px_forget (n := 4) (lv' := [_, _, _, _, _]) rfl ?_
      exact (r_Link_stayingTarget_38 h :)
    · replace h := (if_neg hc).symm.trans h
      refine px_ld rfl rfl rfl rfl rfl ?_
      refine px_goto rfl rfl rfl ?_
      refine px_forget (n := 0) (lv' := [_, _, _, _, _]) rfl ?_
      refine px_forget (n := 1) (lv' := [_, _, _, _, _]) rfl ?_
      refine px_forget (n := 2) (lv' := [_, _, _, _, _]) rfl ?_
      refine px_forget (n := 3) (lv' := [_, _, _, _, _]) rfl ?_
      refine px_forget (n := 4) (lv' := [_, _, _, _, _]) rfl ?_
      exact (r_Link_stayingTarget_38 h :)
  · replace h := (if_neg hc).symm.trans h
    refine px_alu rfl rfl rfl ?_
    cases h
    exact px_aret rfl rfl (Or.inl ⟨_, rfl⟩) (by first | rfl | (cases none <;> rfl) | (cases r <;> rfl) | (cases none <;> cases r <;> rfl)) rfl ⟨rfl, rfl⟩
def f_Link_isShort_216 (F : Nat) (c : px_CT) (s0 : Int32) (ph : px_H) : Option (Int32 × px_H) :=
  xz s0 ph
theorem r_Link_isShort_216 {l : Launch} {g : px_G} {d F : Nat} {s0 : Int32} {ph : px_H} {r : Int32} {ph' : px_H} (h : f_Link_isShort_216 F (px_ct g) s0 ph = some (r, ph')) : PW l g (d + 2) m_Link_isShort 216 [px_u, px_u, px_u, px_u, px_u, px_u, px_u, px_u, px_u, px_u, px_u, px_u, px_u] [.int s0] ph (px_qI r ph') := by
  unfold f_Link_isShort_216 at h
  obtain ⟨e0, e1, e2⟩ := xz_some h
  subst e1 e2
  exact px_iret rfl (Or.inr ⟨rfl, e0⟩) rfl ⟨rfl, rfl⟩
def f_Link_isShort_215 (F : Nat) (c : px_CT) (ph : px_H) : Option (Int32 × px_H) :=
  f_Link_isShort_216 F c (nI 0) ph
theorem r_Link_isShort_215 {l : Launch} {g : px_G} {d F : Nat} {ph : px_H} {r : Int32} {ph' : px_H} (h : f_Link_isShort_215 F (px_ct g) ph = some (r, ph')) : PW l g (d + 2) m_Link_isShort 215 [px_u, px_u, px_u, px_u, px_u, px_u, px_u, px_u, px_u, px_u, px_u, px_u, px_u] [] ph (px_qI r ph') := by
  unfold f_Link_isShort_215 at h
  refine px_ic (k := 0) rfl rfl rfl ?_
  exact (r_Link_isShort_216 h :)
def f_Link_isShort_211 (F : Nat) (c : px_CT) (ph : px_H) : Option (Int32 × px_H) :=
  f_Link_isShort_216 F c (nI 1) ph
theorem r_Link_isShort_211 {l : Launch} {g : px_G} {d F : Nat} {ph : px_H} {r : Int32} {ph' : px_H} (h : f_Link_isShort_211 F (px_ct g) ph = some (r, ph')) : PW l g (d + 2) m_Link_isShort 211 [px_u, px_u, px_u, px_u, px_u, px_u, px_u, px_u, px_u, px_u, px_u, px_u, px_u] [] ph (px_qI r ph') := by
  unfold f_Link_isShort_211 at h
  refine px_ic (k := 1) rfl rfl rfl ?_
  refine px_goto rfl (by decide) rfl ?_
  exact (r_Link_isShort_216 h :)
def f_Link_isShort_182 (F : Nat) (c : px_CT) (a5 : Int32) (a11 : Int32) (a12 : Int32) (ph : px_H) : Option (Int32 × px_H) :=
  if a5 = (nI 41) then
    if a11 = (nI 255) then
      if a12 = (nI 21) then
        f_Link_isShort_211 F c ph
      else
        if a12 = (nI 37) then
          f_Link_isShort_211 F c ph
        else
          f_Link_isShort_215 F c ph
    else
      f_Link_isShort_215 F c ph
  else
    f_Link_isShort_215 F c ph
theorem r_Link_isShort_182 {l : Launch} {g : px_G} {d F : Nat} {a5 : Int32} {a11 : Int32} {a12 : Int32} {ph : px_H} {r : Int32} {ph' : px_H} (h : f_Link_isShort_182 F (px_ct g) a5 a11 a12 ph = some (r, ph')) : PW l g (d + 2) m_Link_isShort 182 [px_u, px_u, px_u, px_u, px_u, .int a5, px_u, px_u, px_u, px_u, px_u, .int a11, .int a12] [] ph (px_qI r ph') := by
  unfold f_Link_isShort_182 at h
  refine px_ld rfl rfl rfl rfl rfl ?_
  refine px_ic (k := 41) rfl rfl rfl ?_
  refine px_icne rfl (by decide) rfl (fun hc => ?_) (fun hc => ?_)
  · replace h := (if_neg hc).symm.trans h
    refine px_forget (n := 5) (lv' := [_, _, _, _, _, _, _, _, _, _, _, _, _]) rfl ?_
    refine px_forget (n := 11) (lv' := [_, _, _, _, _, _, _, _, _, _, _, _, _]) rfl ?_
    refine px_forget (n := 12) (lv' := [_, _, _, _, _, _, _, _, _, _, _, _, _]) rfl ?_
    exact (r_Link_isShort_215 h :)
  · replace h := (if_pos hc).symm.trans h
    refine px_ld rfl rfl rfl rfl rfl ?_
    refine px_ic (k := 255) rfl rfl rfl ?_
    refine px_icne rfl (by decide) rfl (fun hc => ?_) (fun hc => ?_)
    · replace h := (if_neg hc).symm.trans h
      refine px_forget (n := 5) (lv' := [_, _, _, _, _, _, _, _, _, _, _, _, _]) rfl ?_
      refine px_forget (n := 11) (lv' := [_, _, _, _, _, _, _, _, _, _, _, _, _]) rfl ?_
      refine px_forget (n := 12) (lv' := [_, _, _, _, _, _, _, _, _, _, _, _, _]) rfl ?_
      exact (r_Link_isShort_215 h :)
    · replace h := (if_pos hc).symm.trans h
      refine px_ld rfl rfl rfl rfl rfl ?_
      refine px_ic (k := 21) rfl rfl rfl ?_
      refine px_iceq rfl (by decide) rfl (fun hc => ?_) (fun hc => ?_)
      · replace h := (if_pos hc).symm.trans h
        refine px_forget (n := 5) (lv' := [_, _, _, _, _, _, _, _, _, _, _, _, _]) rfl ?_
        refine px_forget (n := 11) (lv' := [_, _, _, _, _, _, _, _, _, _, _, _, _]) rfl ?_
        refine px_forget (n := 12) (lv' := [_, _, _, _, _, _, _, _, _, _, _, _, _]) rfl ?_
        exact (r_Link_isShort_211 h :)
      · replace h := (if_neg hc).symm.trans h
        refine px_ld rfl rfl rfl rfl rfl ?_
        refine px_ic (k := 37) rfl rfl rfl ?_
        refine px_icne rfl (by decide) rfl (fun hc => ?_) (fun hc => ?_)
        · replace h := (if_neg hc).symm.trans h
          refine px_forget (n := 5) (lv' := [_, _, _, _, _, _, _, _, _, _, _, _, _]) rfl ?_
          refine px_forget (n := 11) (lv' := [_, _, _, _, _, _, _, _, _, _, _, _, _]) rfl ?_
          refine px_forget (n := 12) (lv' := [_, _, _, _, _, _, _, _, _, _, _, _, _]) rfl ?_
          exact (r_Link_isShort_215 h :)
        · replace h := (if_pos hc).symm.trans h
          refine px_forget (n := 5) (lv' := [_, _, _, _, _, _, _, _, _, _, _, _, _]) rfl ?_
          refine px_forget (n := 11) (lv' := [_, _, _, _, _, _, _, _, _, _, _, _, _]) rfl ?_
          refine px_forget (n := 12) (lv' := [_, _, _, _, _, _, _, _, _, _, _, _, _]) rfl ?_
          exact (r_Link_isShort_211 h :)
def f_Link_isShort_121 (F : Nat) (c : px_CT) (a3 : Option Nat) (a4 : Option Nat) (a5 : Int32) (a6 : Int64) (ph : px_H) : Option (Int32 × px_H) :=
  (a3).bind fun p1 =>
  (xgI ph 8 7 p1).bind fun t2 =>
  (a4).bind fun p3 =>
  (xgI ph 7 5 p3).bind fun t4 =>
  (xo ph 7 p3).bind fun _ =>
  xb (f_ObjectFile_num F c p3 (((t2 - t4) + a6.toInt32) - (nI 2)) (nI 1) ph) fun t5 ph6 =>
  (xo ph6 7 p3).bind fun _ =>
  xb (f_ObjectFile_num F c p3 (((t2 - t4) + a6.toInt32) - (nI 1)) (nI 1) ph6) fun t7 ph8 =>
  if t5.toInt32 = (nI 139) then
    if ((t7.toInt32 ^^^ (nI 5)) &&& (nI 199)) = 0 then
      f_Link_isShort_211 F c ph8
    else
      f_Link_isShort_182 F c a5 t5.toInt32 t7.toInt32 ph8
  else
    f_Link_isShort_182 F c a5 t5.toInt32 t7.toInt32 ph8
theorem r_Link_isShort_121 {l : Launch} {g : px_G} {d F : Nat} {a3 : Option Nat} {a4 : Option Nat} {a5 : Int32} {a6 : Int64} {ph : px_H} {r : Int32} {ph' : px_H} (h : f_Link_isShort_121 F (px_ct g) a3 a4 a5 a6 ph = some (r, ph')) : PW l g (d + 2) m_Link_isShort 121 [px_u, px_u, px_u, va_rf a3, va_rf a4, .int a5, .long a6, px_u, px_u, px_u, px_u, px_u, px_u] [] ph (px_qI r ph') := by
  unfold f_Link_isShort_121 at h
  refine px_ld rfl rfl rfl (by first | rfl | (cases a3 <;> rfl)) rfl ?_
  obtain ⟨p1, h0, h⟩ := xs_some h
  revert h
  subst h0
  intro h
  obtain ⟨t2, h0, h⟩ := xs_some h
  obtain ⟨fs, e1, e2⟩ := xgI_some h0
  refine px_get rfl e1 e2 rfl ?_
  refine px_ld rfl rfl rfl (by first | rfl | (cases a4 <;> rfl)) rfl ?_
  obtain ⟨p3, h0, h⟩ := xs_some h
  revert h
  subst h0
  intro h
  obtain ⟨t4, h0, h⟩ := xs_some h
  obtain ⟨fs, e1, e2⟩ := xgI_some h0
  refine px_get rfl e1 e2 rfl ?_
  refine px_alu rfl rfl rfl ?_
  refine px_ld rfl rfl rfl rfl rfl ?_
  refine px_alu rfl rfl rfl ?_
  refine px_alu rfl rfl rfl ?_
  refine px_st (lv' := [_, _, _, _, _, _, _, _, _, _, _, _, _]) rfl rfl rfl rfl rfl rfl rfl ?_
  refine px_ld rfl rfl rfl rfl rfl ?_
  refine px_ld rfl rfl rfl rfl rfl ?_
  refine px_ic (k := 2) rfl rfl rfl ?_
  refine px_alu rfl rfl rfl ?_
  refine px_ic (k := 1) rfl rfl rfl ?_
  obtain ⟨fs, h0, h⟩ := xs_some h
  have e1 := xo_some h0
  obtain ⟨t5, ph6, h0, h⟩ := xb_some h
  refine px_cV2 rfl rfl e1 rfl rfl rfl rfl rfl rfl rfl (r_ObjectFile_num h0 :) (fun _ _ q => nomatch q.2) (fun r ph' q => ?_)
  obtain ⟨rfl, q⟩ := q
  cases q
  refine px_alu rfl rfl rfl ?_
  refine px_st (lv' := [_, _, _, _, _, _, _, _, _, _, _, _, _]) rfl rfl rfl rfl rfl rfl rfl ?_
  refine px_ld rfl rfl rfl rfl rfl ?_
  refine px_ld rfl rfl rfl rfl rfl ?_
  refine px_ic (k := 1) rfl rfl rfl ?_
  refine px_alu rfl rfl rfl ?_
  refine px_ic (k := 1) rfl rfl rfl ?_
  obtain ⟨fs, h0, h⟩ := xs_some h
  have e1 := xo_some h0
  obtain ⟨t7, ph8, h0, h⟩ := xb_some h
  refine px_cV2 rfl rfl e1 rfl rfl rfl rfl rfl rfl rfl (r_ObjectFile_num h0 :) (fun _ _ q => nomatch q.2) (fun r ph' q => ?_)
  obtain ⟨rfl, q⟩ := q
  cases q
  refine px_alu rfl rfl rfl ?_
  refine px_st (lv' := [_, _, _, _, _, _, _, _, _, _, _, _, _]) rfl rfl rfl rfl rfl rfl rfl ?_
  refine px_ld rfl rfl rfl rfl rfl ?_
  refine px_ic (k := 139) rfl rfl rfl ?_
  refine px_icne rfl (by decide) rfl (fun hc => ?_) (fun hc => ?_)
  · replace h := (if_neg hc).symm.trans h
    refine px_forget (n := 3) (lv' := [_, _, _, _, _, _, _, _, _, _, _, _, _]) rfl ?_
    refine px_forget (n := 4) (lv' := [_, _, _, _, _, _, _, _, _, _, _, _, _]) rfl ?_
    refine px_forget (n := 6) (lv' := [_, _, _, _, _, _, _, _, _, _, _, _, _]) rfl ?_
    refine px_forget (n := 10) (lv' := [_, _, _, _, _, _, _, _, _, _, _, _, _]) rfl ?_
    exact (r_Link_isShort_182 h :)
  · replace h := (if_pos hc).symm.trans h
    refine px_ld rfl rfl rfl rfl rfl ?_
    refine px_ic (k := 5) rfl rfl rfl ?_
    refine px_alu rfl rfl rfl ?_
    refine px_ic (k := 199) rfl rfl rfl ?_
    refine px_alu rfl rfl rfl ?_
    refine px_ifeq rfl (by decide) rfl (fun hc => ?_) (fun hc => ?_)
    · replace h := (if_pos hc).symm.trans h
      refine px_forget (n := 3) (lv' := [_, _, _, _, _, _, _, _, _, _, _, _, _]) rfl ?_
      refine px_forget (n := 4) (lv' := [_, _, _, _, _, _, _, _, _, _, _, _, _]) rfl ?_
      refine px_forget (n := 5) (lv' := [_, _, _, _, _, _, _, _, _, _, _, _, _]) rfl ?_
      refine px_forget (n := 6) (lv' := [_, _, _, _, _, _, _, _, _, _, _, _, _]) rfl ?_
      refine px_forget (n := 10) (lv' := [_, _, _, _, _, _, _, _, _, _, _, _, _]) rfl ?_
      refine px_forget (n := 11) (lv' := [_, _, _, _, _, _, _, _, _, _, _, _, _]) rfl ?_
      refine px_forget (n := 12) (lv' := [_, _, _, _, _, _, _, _, _, _, _, _, _]) rfl ?_
      exact (r_Link_isShort_211 h :)
    · replace h := (if_neg hc).symm.trans h
      refine px_forget (n := 3) (lv' := [_, _, _, _, _, _, _, _, _, _, _, _, _]) rfl ?_
      refine px_forget (n := 4) (lv' := [_, _, _, _, _, _, _, _, _, _, _, _, _]) rfl ?_
      refine px_forget (n := 6) (lv' := [_, _, _, _, _, _, _, _, _, _, _, _, _]) rfl ?_
      refine px_forget (n := 10) (lv' := [_, _, _, _, _, _, _, _, _, _, _, _, _]) rfl ?_
      exact (r_Link_isShort_182 h :)
def f_Link_isShort_119 (F : Nat) (c : px_CT) (ph : px_H) : Option (Int32 × px_H) :=
  some (nI 0, ph)
theorem r_Link_isShort_119 {l : Launch} {g : px_G} {d F : Nat} {ph : px_H} {r : Int32} {ph' : px_H} (h : f_Link_isShort_119 F (px_ct g) ph = some (r, ph')) : PW l g (d + 2) m_Link_isShort 119 [px_u, px_u, px_u, px_u, px_u, px_u, px_u, px_u, px_u, px_u, px_u, px_u, px_u] [] ph (px_qI r ph') := by
  unfold f_Link_isShort_119 at h
  refine px_ic (k := 0) rfl rfl rfl ?_
  cases h
  exact px_iret rfl (Or.inr ⟨rfl, Or.inl rfl⟩) rfl ⟨rfl, rfl⟩
def f_Link_isShort_71 (F : Nat) (c : px_CT) (ph : px_H) : Option (Int32 × px_H) :=
  some (nI 0, ph)
theorem r_Link_isShort_71 {l : Launch} {g : px_G} {d F : Nat} {ph : px_H} {r : Int32} {ph' : px_H} (h : f_Link_isShort_71 F (px_ct g) ph = some (r, ph')) : PW l g (d + 2) m_Link_isShort 71 [px_u, px_u, px_u, px_u, px_u, px_u, px_u, px_u, px_u, px_u, px_u, px_u, px_u] [] ph (px_qI r ph') := by
  unfold f_Link_isShort_71 at h
  refine px_ic (k := 0) rfl rfl rfl ?_
  cases h
  exact px_iret rfl (Or.inr ⟨rfl, Or.inl rfl⟩) rfl ⟨rfl, rfl⟩
def f_Link_isShort_44 (F : Nat) (c : px_CT) (a0 : Nat) (a1 : Int32) (a2 : Int32) (a3 : Option Nat) (a4 : Option Nat) (a5 : Int32) (a6 : Int64) (ph : px_H) : Option (Int32 × px_H) :=
  (a4).bind fun p1 =>
  (xo ph 7 p1).bind fun _ =>
  xb (f_ObjectFile_num F c p1 (a2 + (nI 16)) (nI 8) ph) fun t2 ph3 =>
  if t2 = ((-4 : Int64)) then
    if ((2 : Int64)) ≤ a6 then
      (xo ph3 7 p1).bind fun _ =>
      xb (f_ObjectFile_num F c p1 (a2 + (nI 12)) (nI 4) ph3) fun t4 ph5 =>
      (xo ph5 3 a0).bind fun _ =>
      xb (f_Link_nameOf F c a0 a1 t4.toInt32 ph5) fun t6 ph7 =>
      (xo ph7 3 a0).bind fun _ =>
      xb (f_Link_partOf F c a0 a1 t4.toInt32 ph7) fun t8 ph9 =>
      (match t8 with
        | none => (match t6 with
          | none => f_Link_isShort_119 F c ph9
          | some p11 => (xgI ph9 5 5 p11).bind fun t12 =>
          if t12 = (nI 3) then
            f_Link_isShort_121 F c a3 (some p1) a5 a6 ph9
          else
            f_Link_isShort_119 F c ph9)
        | some p10 => f_Link_isShort_121 F c a3 (some p1) a5 a6 ph9)
    else
      f_Link_isShort_71 F c ph3
  else
    f_Link_isShort_71 F c ph3
theorem r_Link_isShort_44 {l : Launch} {g : px_G} {d F : Nat} {a0 : Nat} {a1 : Int32} {a2 : Int32} {a3 : Option Nat} {a4 : Option Nat} {a5 : Int32} {a6 : Int64} {ph : px_H} {r : Int32} {ph' : px_H} (h : f_Link_isShort_44 F (px_ct g) a0 a1 a2 a3 a4 a5 a6 ph = some (r, ph')) : PW l g (d + 2) m_Link_isShort 44 [.ref a0, .int a1, .int a2, va_rf a3, va_rf a4, .int a5, .long a6, px_u, px_u, px_u, px_u, px_u, px_u] [] ph (px_qI r ph') := by
  unfold f_Link_isShort_44 at h
  refine px_ld rfl rfl rfl (by first | rfl | (cases a4 <;> rfl)) rfl ?_
  refine px_ld rfl rfl rfl rfl rfl ?_
  refine px_ic (k := 16) rfl rfl rfl ?_
  refine px_alu rfl rfl rfl ?_
  refine px_ic (k := 8) rfl rfl rfl ?_
  obtain ⟨p1, h0, h⟩ := xs_some h
  revert h
  subst h0
  intro h
  obtain ⟨fs, h0, h⟩ := xs_some h
  have e1 := xo_some h0
  obtain ⟨t2, ph3, h0, h⟩ := xb_some h
  refine px_cV2 rfl rfl e1 rfl rfl rfl rfl rfl rfl rfl (r_ObjectFile_num h0 :) (fun _ _ q => nomatch q.2) (fun r ph' q => ?_)
  obtain ⟨rfl, q⟩ := q
  cases q
  refine px_ldc2 rfl rfl rfl ?_
  refine px_alu rfl rfl rfl ?_
  refine px_ifne rfl (by decide) rfl (fun hc => ?_) (fun hc => ?_)
  · replace h := (if_neg (fun q => hc ((lg_cmp_eq _ _).mpr q))).symm.trans h
    refine px_forget (n := 0) (lv' := [_, _, _, _, _, _, _, _, _, _, _, _, _]) rfl ?_
    refine px_forget (n := 1) (lv' := [_, _, _, _, _, _, _, _, _, _, _, _, _]) rfl ?_
    refine px_forget (n := 2) (lv' := [_, _, _, _, _, _, _, _, _, _, _, _, _]) rfl ?_
    refine px_forget (n := 3) (lv' := [_, _, _, _, _, _, _, _, _, _, _, _, _]) rfl ?_
    refine px_forget (n := 4) (lv' := [_, _, _, _, _, _, _, _, _, _, _, _, _]) rfl ?_
    refine px_forget (n := 5) (lv' := [_, _, _, _, _, _, _, _, _, _, _, _, _]) rfl ?_
    refine px_forget (n := 6) (lv' := [_, _, _, _, _, _, _, _, _, _, _, _, _]) rfl ?_
    exact (r_Link_isShort_71 h :)
  · replace h := (if_pos ((lg_cmp_eq _ _).mp hc)).symm.trans h
    refine px_ld rfl rfl rfl rfl rfl ?_
    refine px_ldc2 rfl rfl rfl ?_
    refine px_alu rfl rfl rfl ?_
    refine px_ifge rfl (by decide) rfl (fun hc => ?_) (fun hc => ?_)
    · replace h := (if_pos ((lg_cmp_ge _ _).mp hc)).symm.trans h
      refine px_ld rfl rfl rfl rfl rfl ?_
      refine px_ld rfl rfl rfl rfl rfl ?_
      refine px_ic (k := 12) rfl rfl rfl ?_
      refine px_alu rfl rfl rfl ?_
      refine px_ic (k := 4) rfl rfl rfl ?_
      obtain ⟨fs, h0, h⟩ := xs_some h
      have e1 := xo_some h0
      obtain ⟨t4, ph5, h0, h⟩ := xb_some h
      refine px_cV2 rfl rfl e1 rfl rfl rfl rfl rfl rfl rfl (r_ObjectFile_num h0 :) (fun _ _ q => nomatch q.2) (fun r ph' q => ?_)
      obtain ⟨rfl, q⟩ := q
      cases q
      refine px_alu rfl rfl rfl ?_
      refine px_st (lv' := [_, _, _, _, _, _, _, _, _, _, _, _, _]) rfl rfl rfl rfl rfl rfl rfl ?_
      refine px_ld rfl rfl rfl rfl rfl ?_
      refine px_ld rfl rfl rfl rfl rfl ?_
      refine px_ld rfl rfl rfl rfl rfl ?_
      obtain ⟨fs, h0, h⟩ := xs_some h
      have e1 := xo_some h0
      obtain ⟨t6, ph7, h0, h⟩ := xb_some h
      refine px_cV2 rfl rfl e1 rfl rfl rfl rfl rfl rfl rfl (r_Link_nameOf h0 :) (fun _ _ q => nomatch q.2) (fun r ph' q => ?_)
      obtain ⟨rfl, q⟩ := q
      cases q
      refine px_st (lv' := [.ref a0, .int a1, .int a2, va_rf a3, .ref p1, .int a5, .long a6, px_u, .int t4.toInt32, va_rf t6, px_u, px_u, px_u]) rfl rfl (by first | rfl | (cases t6 <;> rfl)) (by first | rfl | (cases t6 <;> rfl)) rfl (by first | rfl | (cases t6 <;> rfl)) rfl ?_
      refine px_ld rfl rfl rfl rfl rfl ?_
      refine px_ld rfl rfl rfl rfl rfl ?_
      refine px_ld rfl rfl rfl rfl rfl ?_
      obtain ⟨fs, h0, h⟩ := xs_some h
      have e1 := xo_some h0
      obtain ⟨t8, ph9, h0, h⟩ := xb_some h
      refine px_cV2 rfl rfl e1 rfl rfl rfl rfl rfl rfl rfl (r_Link_partOf h0 :) (fun _ _ q => nomatch q.2) (fun r ph' q => ?_)
      obtain ⟨rfl, q⟩ := q
      cases q
      cases t8 with
      | none =>
        refine px_ifnnN rfl rfl ?_
        refine px_ld rfl rfl rfl (by first | rfl | (cases t6 <;> rfl)) rfl ?_
        cases t6 with
        | none =>
          refine px_ifnullN rfl (by decide) rfl ?_
          refine px_forget (n := 0) (lv' := [_, _, _, _, _, _, _, _, _, _, _, _, _]) rfl ?_
          refine px_forget (n := 1) (lv' := [_, _, _, _, _, _, _, _, _, _, _, _, _]) rfl ?_
          refine px_forget (n := 2) (lv' := [_, _, _, _, _, _, _, _, _, _, _, _, _]) rfl ?_
          refine px_forget (n := 3) (lv' := [_, _, _, _, _, _, _, _, _, _, _, _, _]) rfl ?_
          refine px_forget (n := 4) (lv' := [_, _, _, _, _, _, _, _, _, _, _, _, _]) rfl ?_
          refine px_forget (n := 5) (lv' := [_, _, _, _, _, _, _, _, _, _, _, _, _]) rfl ?_
          refine px_forget (n := 6) (lv' := [_, _, _, _, _, _, _, _, _, _, _, _, _]) rfl ?_
          refine px_forget (n := 8) (lv' := [_, _, _, _, _, _, _, _, _, _, _, _, _]) rfl ?_
          refine px_forget (n := 9) (lv' := [_, _, _, _, _, _, _, _, _, _, _, _, _]) rfl ?_
          exact (r_Link_isShort_119 h :)
        | some p11 =>
          refine px_ifnullR rfl rfl ?_
          refine px_ld rfl rfl rfl rfl rfl ?_
          obtain ⟨t12, h0, h⟩ := xs_some h
          obtain ⟨fs, e1, e2⟩ := xgI_some h0
          refine px_get rfl e1 e2 rfl ?_
          refine px_ic (k := 3) rfl rfl rfl ?_
          refine px_iceq rfl (by decide) rfl (fun hc => ?_) (fun hc => ?_)
          · replace h := (if_pos hc).symm.trans h
            refine px_forget (n := 0) (lv' := [_, _, _, _, _, _, _, _, _, _, _, _, _]) rfl ?_
            refine px_forget (n := 1) (lv' := [_, _, _, _, _, _, _, _, _, _, _, _, _]) rfl ?_
            refine px_forget (n := 2) (lv' := [_, _, _, _, _, _, _, _, _, _, _, _, _]) rfl ?_
            refine px_forget (n := 8) (lv' := [_, _, _, _, _, _, _, _, _, _, _, _, _]) rfl ?_
            refine px_forget (n := 9) (lv' := [_, _, _, _, _, _, _, _, _, _, _, _, _]) rfl ?_
            exact (r_Link_isShort_121 h :)
          · replace h := (if_neg hc).symm.trans h
            refine px_forget (n := 0) (lv' := [_, _, _, _, _, _, _, _, _, _, _, _, _]) rfl ?_
            refine px_forget (n := 1) (lv' := [_, _, _, _, _, _, _, _, _, _, _, _, _]) rfl ?_
            refine px_forget (n := 2) (lv' := [_, _, _, _, _, _, _, _, _, _, _, _, _]) rfl ?_
            refine px_forget (n := 3) (lv' := [_, _, _, _, _, _, _, _, _, _, _, _, _]) rfl ?_
            refine px_forget (n := 4) (lv' := [_, _, _, _, _, _, _, _, _, _, _, _, _]) rfl ?_
            refine px_forget (n := 5) (lv' := [_, _, _, _, _, _, _, _, _, _, _, _, _]) rfl ?_
            refine px_forget (n := 6) (lv' := [_, _, _, _, _, _, _, _, _, _, _, _, _]) rfl ?_
            refine px_forget (n := 8) (lv' := [_, _, _, _, _, _, _, _, _, _, _, _, _]) rfl ?_
            refine px_forget (n := 9) (lv' := [_, _, _, _, _, _, _, _, _, _, _, _, _]) rfl ?_
            exact (r_Link_isShort_119 h :)
      | some p10 =>
        refine px_ifnnR rfl (by decide) rfl ?_
        refine px_forget (n := 0) (lv' := [_, _, _, _, _, _, _, _, _, _, _, _, _]) rfl ?_
        refine px_forget (n := 1) (lv' := [_, _, _, _, _, _, _, _, _, _, _, _, _]) rfl ?_
        refine px_forget (n := 2) (lv' := [_, _, _, _, _, _, _, _, _, _, _, _, _]) rfl ?_
        refine px_forget (n := 8) (lv' := [_, _, _, _, _, _, _, _, _, _, _, _, _]) rfl ?_
        refine px_forget (n := 9) (lv' := [_, _, _, _, _, _, _, _, _, _, _, _, _]) rfl ?_
        exact (r_Link_isShort_121 h :)
    · replace h := (if_neg (fun q => hc ((lg_cmp_ge _ _).mpr q))).symm.trans h
      refine px_forget (n := 0) (lv' := [_, _, _, _, _, _, _, _, _, _, _, _, _]) rfl ?_
      refine px_forget (n := 1) (lv' := [_, _, _, _, _, _, _, _, _, _, _, _, _]) rfl ?_
      refine px_forget (n := 2) (lv' := [_, _, _, _, _, _, _, _, _, _, _, _, _]) rfl ?_
      refine px_forget (n := 3) (lv' := [_, _, _, _, _, _, _, _, _, _, _, _, _]) rfl ?_
      refine px_forget (n := 4) (lv' := [_, _, _, _, _, _, _, _, _, _, _, _, _]) rfl ?_
      refine px_forget (n := 5) (lv' := [_, _, _, _, _, _, _, _, _, _, _, _, _]) rfl ?_
      refine px_forget (n := 6) (lv' := [_, _, _, _, _, _, _, _, _, _, _, _, _]) rfl ?_
      exact (r_Link_isShort_71 h :)
def f_Link_isShort (F : Nat) (c : px_CT) (a0 : Nat) (a1 : Int32) (a2 : Int32) (a3 : Option Nat) (ph : px_H) : Option (Int32 × px_H) :=
  (xo ph 3 a0).bind fun _ =>
  xb (f_Link_object F c a0 a1 ph) fun t1 ph2 =>
  (t1).bind fun p3 =>
  (xo ph2 7 p3).bind fun _ =>
  xb (f_ObjectFile_num F c p3 (a2 + (nI 8)) (nI 4) ph2) fun t4 ph5 =>
  (xo ph5 7 p3).bind fun _ =>
  xb (f_ObjectFile_num F c p3 a2 (nI 8) ph5) fun t6 ph7 =>
  if t4.toInt32 = (nI 41) then
    f_Link_isShort_44 F c a0 a1 a2 a3 (some p3) t4.toInt32 t6 ph7
  else
    if t4.toInt32 = (nI 42) then
      f_Link_isShort_44 F c a0 a1 a2 a3 (some p3) t4.toInt32 t6 ph7
    else
      f_Link_isShort_71 F c ph7
theorem r_Link_isShort {l : Launch} {g : px_G} {d F : Nat} {a0 : Nat} {a1 : Int32} {a2 : Int32} {a3 : Option Nat} {ph : px_H} {r : Int32} {ph' : px_H} (h : f_Link_isShort F (px_ct g) a0 a1 a2 a3 ph = some (r, ph')) : PW l g (d + 2) m_Link_isShort 0 [.ref a0, .int a1, .int a2, va_rf a3, px_u, px_u, px_u, px_u, px_u, px_u, px_u, px_u, px_u] [] ph (px_qI r ph') := by
  unfold f_Link_isShort at h
  refine px_ld rfl rfl rfl rfl rfl ?_
  refine px_ld rfl rfl rfl rfl rfl ?_
  obtain ⟨fs, h0, h⟩ := xs_some h
  have e1 := xo_some h0
  obtain ⟨t1, ph2, h0, h⟩ := xb_some h
  refine px_cV1 rfl rfl e1 rfl rfl rfl rfl rfl rfl rfl (r_Link_object h0 :) (fun _ _ q => nomatch q.2) (fun r ph' q => ?_)
  obtain ⟨rfl, q⟩ := q
  cases q
  refine px_st (lv' := [.ref a0, .int a1, .int a2, va_rf a3, va_rf t1, px_u, px_u, px_u, px_u, px_u, px_u, px_u, px_u]) rfl rfl (by first | rfl | (cases t1 <;> rfl)) (by first | rfl | (cases t1 <;> rfl)) (by first | rfl | (cases a3 <;> rfl)) (by first | rfl | (cases t1 <;> rfl)) rfl ?_
  refine px_ld rfl rfl rfl (by first | rfl | (cases t1 <;> rfl)) rfl ?_
  refine px_ld rfl rfl rfl rfl rfl ?_
  refine px_ic (k := 8) rfl rfl rfl ?_
  refine px_alu rfl rfl rfl ?_
  refine px_ic (k := 4) rfl rfl rfl ?_
  obtain ⟨p3, h0, h⟩ := xs_some h
  revert h
  subst h0
  intro h
  obtain ⟨fs, h0, h⟩ := xs_some h
  have e1 := xo_some h0
  obtain ⟨t4, ph5, h0, h⟩ := xb_some h
  refine px_cV2 rfl rfl e1 rfl rfl rfl rfl rfl rfl rfl (r_ObjectFile_num h0 :) (fun _ _ q => nomatch q.2) (fun r ph' q => ?_)
  obtain ⟨rfl, q⟩ := q
  cases q
  refine px_alu rfl rfl rfl ?_
  refine px_st (lv' := [_, _, _, _, _, _, _, _, _, _, _, _, _]) rfl rfl rfl rfl rfl rfl rfl ?_
  refine px_ld rfl rfl rfl rfl rfl ?_
  refine px_ld rfl rfl rfl rfl rfl ?_
  refine px_ic (k := 8) rfl rfl rfl ?_
  obtain ⟨fs, h0, h⟩ := xs_some h
  have e1 := xo_some h0
  obtain ⟨t6, ph7, h0, h⟩ := xb_some h
  refine px_cV2 rfl rfl e1 rfl rfl rfl rfl rfl rfl rfl (r_ObjectFile_num h0 :) (fun _ _ q => nomatch q.2) (fun r ph' q => ?_)
  obtain ⟨rfl, q⟩ := q
  cases q
  refine px_st (lv' := [_, _, _, _, _, _, _, _, _, _, _, _, _]) rfl rfl rfl rfl rfl rfl rfl ?_
  refine px_ld rfl rfl rfl rfl rfl ?_
  refine px_ic (k := 41) rfl rfl rfl ?_
  refine px_iceq rfl (by decide) rfl (fun hc => ?_) (fun hc => ?_)
  · replace h := (if_pos hc).symm.trans h
    exact (r_Link_isShort_44 h :)
  · replace h := (if_neg hc).symm.trans h
    refine px_ld rfl rfl rfl rfl rfl ?_
    refine px_ic (k := 42) rfl rfl rfl ?_
    refine px_icne rfl (by decide) rfl (fun hc => ?_) (fun hc => ?_)
    · replace h := (if_neg hc).symm.trans h
      refine px_forget (n := 0) (lv' := [_, _, _, _, _, _, _, _, _, _, _, _, _]) rfl ?_
      refine px_forget (n := 1) (lv' := [_, _, _, _, _, _, _, _, _, _, _, _, _]) rfl ?_
      refine px_forget (n := 2) (lv' := [_, _, _, _, _, _, _, _, _, _, _, _, _]) rfl ?_
      refine px_forget (n := 3) (lv' := [_, _, _, _, _, _, _, _, _, _, _, _, _]) rfl ?_
      refine px_forget (n := 4) (lv' := [_, _, _, _, _, _, _, _, _, _, _, _, _]) rfl ?_
      refine px_forget (n := 5) (lv' := [_, _, _, _, _, _, _, _, _, _, _, _, _]) rfl ?_
      refine px_forget (n := 6) (lv' := [_, _, _, _, _, _, _, _, _, _, _, _, _]) rfl ?_
      exact (r_Link_isShort_71 h :)
    · replace h := (if_pos hc).symm.trans h
      exact (r_Link_isShort_44 h :)
def f_Layout_slotKey_41 (F : Nat) (c : px_CT) (s0 : Int32) (ph : px_H) : Option (Int32 × px_H) :=
  some (s0, ph)
theorem r_Layout_slotKey_41 {l : Launch} {g : px_G} {d F : Nat} {s0 : Int32} {ph : px_H} {r : Int32} {ph' : px_H} (h : f_Layout_slotKey_41 F (px_ct g) s0 ph = some (r, ph')) : PW l g (d + 0) m_Layout_slotKey 41 [px_u, px_u, px_u, px_u, px_u] [.int s0] ph (px_qI r ph') := by
  unfold f_Layout_slotKey_41 at h
  cases h
  exact px_iret rfl (Or.inl rfl) rfl ⟨rfl, rfl⟩
def f_Layout_slotKey_40 (F : Nat) (c : px_CT) (ph : px_H) : Option (Int32 × px_H) :=
  f_Layout_slotKey_41 F c (nI 0) ph
theorem r_Layout_slotKey_40 {l : Launch} {g : px_G} {d F : Nat} {ph : px_H} {r : Int32} {ph' : px_H} (h : f_Layout_slotKey_40 F (px_ct g) ph = some (r, ph')) : PW l g (d + 0) m_Layout_slotKey 40 [px_u, px_u, px_u, px_u, px_u] [] ph (px_qI r ph') := by
  unfold f_Layout_slotKey_40 at h
  refine px_ic (k := 0) rfl rfl rfl ?_
  exact (r_Layout_slotKey_41 h :)
def f_Layout_slotKey_17 (F : Nat) (c : px_CT) (a0 : Nat) (s0 : Int32) (s1 : Int32) (ph : px_H) : Option (Int32 × px_H) :=
  if (s0 + s1) < 0 then
    f_Layout_slotKey_40 F c ph
  else
    (xgR ph 2 10 a0).bind fun t1 =>
    (xal ph 1 t1).bind fun t2 =>
    if t2 ≤ (s0 + s1) then
      f_Layout_slotKey_40 F c ph
    else
      f_Layout_slotKey_41 F c (s0 + s1) ph
theorem r_Layout_slotKey_17 {l : Launch} {g : px_G} {d F : Nat} {a0 : Nat} {s0 : Int32} {s1 : Int32} {ph : px_H} {r : Int32} {ph' : px_H} (h : f_Layout_slotKey_17 F (px_ct g) a0 s0 s1 ph = some (r, ph')) : PW l g (d + 0) m_Layout_slotKey 17 [.ref a0, px_u, px_u, px_u, px_u] [.int s1, .int s0] ph (px_qI r ph') := by
  unfold f_Layout_slotKey_17 at h
  refine px_alu rfl rfl rfl ?_
  refine px_st (lv' := [_, _, _, _, _]) rfl rfl rfl rfl rfl rfl rfl ?_
  refine px_ld rfl rfl rfl rfl rfl ?_
  refine px_iflt rfl rfl rfl (fun hc => ?_) (fun hc => ?_)
  · replace h := (if_pos hc).symm.trans h
    refine px_forget (n := 0) (lv' := [_, _, _, _, _]) rfl ?_
    refine px_forget (n := 4) (lv' := [_, _, _, _, _]) rfl ?_
    exact (r_Layout_slotKey_40 h :)
  · replace h := (if_neg hc).symm.trans h
    refine px_ld rfl rfl rfl rfl rfl ?_
    refine px_ld rfl rfl rfl rfl rfl ?_
    obtain ⟨t1, h0, h⟩ := xs_some h
    obtain ⟨fs, e1, e2⟩ := xgR_some h0
    refine px_get rfl e1 e2 rfl ?_
    obtain ⟨t2, h0, h⟩ := xs_some h
    obtain ⟨x, e1, e3⟩ := xal_some h0
    subst e3
    refine px_alen rfl e1 rfl rfl ?_
    refine px_icge rfl rfl rfl (fun hc => ?_) (fun hc => ?_)
    · replace h := (if_pos hc).symm.trans h
      refine px_forget (n := 0) (lv' := [_, _, _, _, _]) rfl ?_
      refine px_forget (n := 4) (lv' := [_, _, _, _, _]) rfl ?_
      exact (r_Layout_slotKey_40 h :)
    · replace h := (if_neg hc).symm.trans h
      refine px_ld rfl rfl rfl rfl rfl ?_
      refine px_goto rfl rfl rfl ?_
      refine px_forget (n := 0) (lv' := [_, _, _, _, _]) rfl ?_
      refine px_forget (n := 4) (lv' := [_, _, _, _, _]) rfl ?_
      exact (r_Layout_slotKey_41 h :)
def f_Layout_slotKey (F : Nat) (c : px_CT) (a0 : Nat) (a1 : Int32) (a2 : Int32) (a3 : Int32) (ph : px_H) : Option (Int32 × px_H) :=
  if a3 = 0 then
    f_Layout_slotKey_17 F c a0 ((nI 2) * ((a1 * (nI 64)) + a2)) (nI 0) ph
  else
    f_Layout_slotKey_17 F c a0 ((nI 2) * ((a1 * (nI 64)) + a2)) (nI 1) ph
theorem r_Layout_slotKey {l : Launch} {g : px_G} {d F : Nat} {a0 : Nat} {a1 : Int32} {a2 : Int32} {a3 : Int32} {ph : px_H} {r : Int32} {ph' : px_H} (h : f_Layout_slotKey F (px_ct g) a0 a1 a2 a3 ph = some (r, ph')) : PW l g (d + 0) m_Layout_slotKey 0 [.ref a0, .int a1, .int a2, .int a3, px_u] [] ph (px_qI r ph') := by
  unfold f_Layout_slotKey at h
  refine px_ic (k := 2) rfl rfl rfl ?_
  refine px_ld rfl rfl rfl rfl rfl ?_
  refine px_ic (k := 64) rfl rfl rfl ?_
  refine px_alu rfl rfl rfl ?_
  refine px_ld rfl rfl rfl rfl rfl ?_
  refine px_alu rfl rfl rfl ?_
  refine px_alu rfl rfl rfl ?_
  refine px_ld rfl rfl rfl rfl rfl ?_
  refine px_ifeq rfl rfl rfl (fun hc => ?_) (fun hc => ?_)
  · replace h := (if_pos hc).symm.trans h
    refine px_ic (k := 0) rfl rfl rfl ?_
    refine px_forget (n := 1) (lv' := [_, _, _, _, _]) rfl ?_
    refine px_forget (n := 2) (lv' := [_, _, _, _, _]) rfl ?_
    refine px_forget (n := 3) (lv' := [_, _, _, _, _]) rfl ?_
    exact (r_Layout_slotKey_17 h :)
  · replace h := (if_neg hc).symm.trans h
    refine px_ic (k := 1) rfl rfl rfl ?_
    refine px_goto rfl rfl rfl ?_
    refine px_forget (n := 1) (lv' := [_, _, _, _, _]) rfl ?_
    refine px_forget (n := 2) (lv' := [_, _, _, _, _]) rfl ?_
    refine px_forget (n := 3) (lv' := [_, _, _, _, _]) rfl ?_
    exact (r_Layout_slotKey_17 h :)
def f_Layout_slotOf_33 (F : Nat) (c : px_CT) (s0 : Int32) (ph : px_H) : Option (Int32 × px_H) :=
  some (s0, ph)
theorem r_Layout_slotOf_33 {l : Launch} {g : px_G} {d F : Nat} {s0 : Int32} {ph : px_H} {r : Int32} {ph' : px_H} (h : f_Layout_slotOf_33 F (px_ct g) s0 ph = some (r, ph')) : PW l g (d + 1) m_Layout_slotOf 33 [px_u, px_u, px_u, px_u, px_u] [.int s0] ph (px_qI r ph') := by
  unfold f_Layout_slotOf_33 at h
  cases h
  exact px_iret rfl (Or.inl rfl) rfl ⟨rfl, rfl⟩
def f_Layout_slotOf (F : Nat) (c : px_CT) (a0 : Nat) (a1 : Int32) (a2 : Int32) (a3 : Int32) (ph : px_H) : Option (Int32 × px_H) :=
  (xgR ph 2 0 a0).bind fun t1 =>
  (xo ph 3 t1).bind fun _ =>
  xb (f_Link_nameOf F c t1 a1 a2 ph) fun t2 ph3 =>
  (match t2 with
    | none => (xgR ph3 2 10 a0).bind fun t5 =>
    (xo ph3 2 a0).bind fun _ =>
    xb (f_Layout_slotKey F c a0 a1 a2 a3 ph3) fun t6 ph7 =>
    (xaI ph7 1 t5 t6).bind fun t8 =>
    some (t8, ph7)
    | some p4 => if a3 = 0 then
      (xgI ph3 5 15 p4).bind fun t9 =>
      f_Layout_slotOf_33 F c t9 ph3
    else
      (xgI ph3 5 16 p4).bind fun t10 =>
      f_Layout_slotOf_33 F c t10 ph3)
theorem r_Layout_slotOf {l : Launch} {g : px_G} {d F : Nat} {a0 : Nat} {a1 : Int32} {a2 : Int32} {a3 : Int32} {ph : px_H} {r : Int32} {ph' : px_H} (h : f_Layout_slotOf F (px_ct g) a0 a1 a2 a3 ph = some (r, ph')) : PW l g (d + 1) m_Layout_slotOf 0 [.ref a0, .int a1, .int a2, .int a3, px_u] [] ph (px_qI r ph') := by
  unfold f_Layout_slotOf at h
  refine px_ld rfl rfl rfl rfl rfl ?_
  obtain ⟨t1, h0, h⟩ := xs_some h
  obtain ⟨fs, e1, e2⟩ := xgR_some h0
  refine px_get rfl e1 e2 rfl ?_
  refine px_ld rfl rfl rfl rfl rfl ?_
  refine px_ld rfl rfl rfl rfl rfl ?_
  obtain ⟨fs, h0, h⟩ := xs_some h
  have e1 := xo_some h0
  obtain ⟨t2, ph3, h0, h⟩ := xb_some h
  refine px_cV2 rfl rfl e1 rfl rfl rfl rfl rfl rfl rfl (r_Link_nameOf h0 :) (fun _ _ q => nomatch q.2) (fun r ph' q => ?_)
  obtain ⟨rfl, q⟩ := q
  cases q
  refine px_st (lv' := [.ref a0, .int a1, .int a2, .int a3, va_rf t2]) rfl rfl (by first | rfl | (cases t2 <;> rfl)) (by first | rfl | (cases t2 <;> rfl)) rfl (by first | rfl | (cases t2 <;> rfl)) rfl ?_
  refine px_ld rfl rfl rfl (by first | rfl | (cases t2 <;> rfl)) rfl ?_
  cases t2 with
  | none =>
    refine px_ifnullN rfl rfl rfl ?_
    refine px_ld rfl rfl rfl rfl rfl ?_
    obtain ⟨t5, h0, h⟩ := xs_some h
    obtain ⟨fs, e1, e2⟩ := xgR_some h0
    refine px_get rfl e1 e2 rfl ?_
    refine px_ld rfl rfl rfl rfl rfl ?_
    refine px_ld rfl rfl rfl rfl rfl ?_
    refine px_ld rfl rfl rfl rfl rfl ?_
    refine px_ld rfl rfl rfl rfl rfl ?_
    obtain ⟨fs, h0, h⟩ := xs_some h
    have e1 := xo_some h0
    obtain ⟨t6, ph7, h0, h⟩ := xb_some h
    refine px_cV3 rfl rfl e1 rfl rfl rfl rfl rfl rfl rfl (r_Layout_slotKey h0 :) (fun _ _ q => nomatch q.2) (fun r ph' q => ?_)
    obtain ⟨rfl, q⟩ := q
    cases q
    obtain ⟨t8, h0, h⟩ := xs_some h
    obtain ⟨N, f, e1, e2, e3⟩ := xaI_some h0
    subst e3
    refine px_iald rfl e1 rfl e2 rfl ?_
    cases h
    exact px_iret rfl (Or.inl rfl) rfl ⟨rfl, rfl⟩
  | some p4 =>
    refine px_ifnullR rfl rfl ?_
    refine px_ld rfl rfl rfl rfl rfl ?_
    refine px_ifeq rfl rfl rfl (fun hc => ?_) (fun hc => ?_)
    · replace h := (if_pos hc).symm.trans h
      refine px_ld rfl rfl rfl rfl rfl ?_
      obtain ⟨t9, h0, h⟩ := xs_some h
      obtain ⟨fs, e1, e2⟩ := xgI_some h0
      refine px_get rfl e1 e2 rfl ?_
      refine px_forget (n := 0) (lv' := [_, _, _, _, _]) rfl ?_
      refine px_forget (n := 1) (lv' := [_, _, _, _, _]) rfl ?_
      refine px_forget (n := 2) (lv' := [_, _, _, _, _]) rfl ?_
      refine px_forget (n := 3) (lv' := [_, _, _, _, _]) rfl ?_
      refine px_forget (n := 4) (lv' := [_, _, _, _, _]) rfl ?_
      exact (r_Layout_slotOf_33 h :)
    · replace h := (if_neg hc).symm.trans h
      refine px_ld rfl rfl rfl rfl rfl ?_
      obtain ⟨t10, h0, h⟩ := xs_some h
      obtain ⟨fs, e1, e2⟩ := xgI_some h0
      refine px_get rfl e1 e2 rfl ?_
      refine px_goto rfl rfl rfl ?_
      refine px_forget (n := 0) (lv' := [_, _, _, _, _]) rfl ?_
      refine px_forget (n := 1) (lv' := [_, _, _, _, _]) rfl ?_
      refine px_forget (n := 2) (lv' := [_, _, _, _, _]) rfl ?_
      refine px_forget (n := 3) (lv' := [_, _, _, _, _]) rfl ?_
      refine px_forget (n := 4) (lv' := [_, _, _, _, _]) rfl ?_
      exact (r_Layout_slotOf_33 h :)
