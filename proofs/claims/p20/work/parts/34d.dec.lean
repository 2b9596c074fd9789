/-! methods as functions: LinkHouse -/
def f_H_memberSize_187 (F : Nat) (c : px_CT) (a2 : Int64) (ph : px_H) : Option (Int32 × px_H) :=
  some (a2.toInt32, ph)
theorem r_H_memberSize_187 {l : Launch} {g : px_G} {d F : Nat} {a2 : Int64} {ph : px_H} {r : Int32} {ph' : px_H} (h : f_H_memberSize_187 F (px_ct g) a2 ph = some (r, ph')) : PW l g (d + 2) m_H_memberSize 187 [px_u, px_u, .long a2, px_u, px_u, px_u, px_u] [] ph (px_qI r ph') := by
  unfold f_H_memberSize_187 at h
  refine px_ld rfl rfl rfl rfl rfl ?_
  refine px_alu rfl rfl rfl ?_
  cases h
  exact px_iret rfl (Or.inl rfl) rfl ⟨rfl, rfl⟩
def f_H_memberSize_185 (F : Nat) (c : px_CT) (ph : px_H) : Option (Int32 × px_H) :=
  some (Int32.ofInt (-1), ph)
theorem r_H_memberSize_185 {l : Launch} {g : px_G} {d F : Nat} {ph : px_H} {r : Int32} {ph' : px_H} (h : f_H_memberSize_185 F (px_ct g) ph = some (r, ph')) : PW l g (d + 2) m_H_memberSize 185 [px_u, px_u, px_u, px_u, px_u, px_u, px_u] [] ph (px_qI r ph') := by
  unfold f_H_memberSize_185 at h
  refine px_alu rfl rfl rfl ?_
  cases h
  exact px_iret rfl (Or.inl rfl) rfl ⟨rfl, rfl⟩
def f_H_memberSize_149 (F : Nat) (c : px_CT) (ph : px_H) : Option (Int32 × px_H) :=
  some (Int32.ofInt (-1), ph)
theorem r_H_memberSize_149 {l : Launch} {g : px_G} {d F : Nat} {ph : px_H} {r : Int32} {ph' : px_H} (h : f_H_memberSize_149 F (px_ct g) ph = some (r, ph')) : PW l g (d + 2) m_H_memberSize 149 [px_u, px_u, px_u, px_u, px_u, px_u, px_u] [] ph (px_qI r ph') := by
  unfold f_H_memberSize_149 at h
  refine px_alu rfl rfl rfl ?_
  cases h
  exact px_iret rfl (Or.inl rfl) rfl ⟨rfl, rfl⟩
def f_H_memberSize_122 (F : Nat) (c : px_CT) (a0 : Nat) (a1 : Int32) (a2 : Int64) (a4 : Int32) (ph : px_H) : Option (Int32 × px_H) :=
  (xgR ph 0 0 a0).bind fun t1 =>
  (xgI ph 10 1 t1).bind fun t2 =>
  if a4 = 0 then
    f_H_memberSize_149 F c ph
  else
    if a2 ≤ (((t2 - a1) - (nI 60)).toInt64) then
      if (a2 &&& (lN 1)) = (lN 1) then
        if a2 = (((t2 - a1) - (nI 60)).toInt64) then
          f_H_memberSize_185 F c ph
        else
          (xgR ph 0 0 a0).bind fun t3 =>
          (xo ph 10 t3).bind fun _ =>
          xb (f_Row_at F c t3 ((a1 + (nI 60)) + a2.toInt32) ph) fun t4 ph5 =>
          if t4 = (nI 10) then
            f_H_memberSize_187 F c a2 ph5
          else
            f_H_memberSize_185 F c ph5
      else
        f_H_memberSize_187 F c a2 ph
    else
      f_H_memberSize_149 F c ph
theorem r_H_memberSize_122 {l : Launch} {g : px_G} {d F : Nat} {a0 : Nat} {a1 : Int32} {a2 : Int64} {a4 : Int32} {ph : px_H} {r : Int32} {ph' : px_H} (h : f_H_memberSize_122 F (px_ct g) a0 a1 a2 a4 ph = some (r, ph')) : PW l g (d + 2) m_H_memberSize 122 [.ref a0, .int a1, .long a2, px_u, .int a4, px_u, px_u] [] ph (px_qI r ph') := by
  unfold f_H_memberSize_122 at h
  refine px_ld rfl rfl rfl rfl rfl ?_
  obtain ⟨t1, h0, h⟩ := xs_some h
  obtain ⟨fs, e1, e2⟩ := xgR_some h0
  refine px_get rfl e1 e2 rfl ?_
  obtain ⟨t2, h0, h⟩ := xs_some h
  obtain ⟨fs, e1, e2⟩ := xgI_some h0
  refine px_get rfl e1 e2 rfl ?_
  refine px_ld rfl rfl rfl rfl rfl ?_
  refine px_alu rfl rfl rfl ?_
  refine px_ic (k := 60) rfl rfl rfl ?_
  refine px_alu rfl rfl rfl ?_
  refine px_alu rfl rfl rfl ?_
  refine px_st (lv' := [_, _, _, _, _, _, _]) rfl rfl rfl rfl rfl rfl rfl ?_
  refine px_ld rfl rfl rfl rfl rfl ?_
  refine px_ifeq rfl (by decide) rfl (fun hc => ?_) (fun hc => ?_)
  · replace h := (if_pos hc).symm.trans h
    refine px_forget (n := 0) (lv' := [_, _, _, _, _, _, _]) rfl ?_
    refine px_forget (n := 1) (lv' := [_, _, _, _, _, _, _]) rfl ?_
    refine px_forget (n := 2) (lv' := [_, _, _, _, _, _, _]) rfl ?_
    refine px_forget (n := 4) (lv' := [_, _, _, _, _, _, _]) rfl ?_
    refine px_forget (n := 5) (lv' := [_, _, _, _, _, _, _]) rfl ?_
    exact (r_H_memberSize_149 h :)
  · replace h := (if_neg hc).symm.trans h
    refine px_ld rfl rfl rfl rfl rfl ?_
    refine px_ld rfl rfl rfl rfl rfl ?_
    refine px_alu rfl rfl rfl ?_
    refine px_ifle rfl (by decide) rfl (fun hc => ?_) (fun hc => ?_)
    · replace h := (if_pos ((lg_cmp_le _ _).mp hc)).symm.trans h
      refine px_ld rfl rfl rfl rfl rfl ?_
      refine px_alu rfl rfl rfl ?_
      refine px_alu rfl rfl rfl ?_
      refine px_alu rfl rfl rfl ?_
      refine px_alu rfl rfl rfl ?_
      refine px_ifne rfl (by decide) rfl (fun hc => ?_) (fun hc => ?_)
      · replace h := (if_neg (fun q => hc ((lg_cmp_eq _ _).mpr q))).symm.trans h
        refine px_forget (n := 0) (lv' := [_, _, _, _, _, _, _]) rfl ?_
        refine px_forget (n := 1) (lv' := [_, _, _, _, _, _, _]) rfl ?_
        refine px_forget (n := 4) (lv' := [_, _, _, _, _, _, _]) rfl ?_
        refine px_forget (n := 5) (lv' := [_, _, _, _, _, _, _]) rfl ?_
        exact (r_H_memberSize_187 h :)
      · replace h := (if_pos ((lg_cmp_eq _ _).mp hc)).symm.trans h
        refine px_ld rfl rfl rfl rfl rfl ?_
        refine px_ld rfl rfl rfl rfl rfl ?_
        refine px_alu rfl rfl rfl ?_
        refine px_ifeq rfl (by decide) rfl (fun hc => ?_) (fun hc => ?_)
        · replace h := (if_pos ((lg_cmp_eq _ _).mp hc)).symm.trans h
          refine px_forget (n := 0) (lv' := [_, _, _, _, _, _, _]) rfl ?_
          refine px_forget (n := 1) (lv' := [_, _, _, _, _, _, _]) rfl ?_
          refine px_forget (n := 2) (lv' := [_, _, _, _, _, _, _]) rfl ?_
          refine px_forget (n := 4) (lv' := [_, _, _, _, _, _, _]) rfl ?_
          refine px_forget (n := 5) (lv' := [_, _, _, _, _, _, _]) rfl ?_
          exact (r_H_memberSize_185 h :)
        · replace h := (if_neg (fun q => hc ((lg_cmp_eq _ _).mpr q))).symm.trans h
          refine px_ld rfl rfl rfl rfl rfl ?_
          obtain ⟨t3, h0, h⟩ := xs_some h
          obtain ⟨fs, e1, e2⟩ := xgR_some h0
          refine px_get rfl e1 e2 rfl ?_
          refine px_ld rfl rfl rfl rfl rfl ?_
          refine px_ic (k := 60) rfl rfl rfl ?_
          refine px_alu rfl rfl rfl ?_
          refine px_ld rfl rfl rfl rfl rfl ?_
          refine px_alu rfl rfl rfl ?_
          refine px_alu rfl rfl rfl ?_
          obtain ⟨fs, h0, h⟩ := xs_some h
          have e1 := xo_some h0
          obtain ⟨t4, ph5, h0, h⟩ := xb_some h
          refine px_cV1 rfl rfl e1 rfl rfl rfl rfl rfl rfl rfl (r_Row_at h0 :) (fun _ _ q => nomatch q.2) (fun r ph' q => ?_)
          obtain ⟨rfl, q⟩ := q
          cases q
          refine px_ic (k := 10) rfl rfl rfl ?_
          refine px_iceq rfl (by decide) rfl (fun hc => ?_) (fun hc => ?_)
          · replace h := (if_pos hc).symm.trans h
            refine px_forget (n := 0) (lv' := [_, _, _, _, _, _, _]) rfl ?_
            refine px_forget (n := 1) (lv' := [_, _, _, _, _, _, _]) rfl ?_
            refine px_forget (n := 4) (lv' := [_, _, _, _, _, _, _]) rfl ?_
            refine px_forget (n := 5) (lv' := [_, _, _, _, _, _, _]) rfl ?_
            exact (r_H_memberSize_187 h :)
          · replace h := (if_neg hc).symm.trans h
            refine px_forget (n := 0) (lv' := [_, _, _, _, _, _, _]) rfl ?_
            refine px_forget (n := 1) (lv' := [_, _, _, _, _, _, _]) rfl ?_
            refine px_forget (n := 2) (lv' := [_, _, _, _, _, _, _]) rfl ?_
            refine px_forget (n := 4) (lv' := [_, _, _, _, _, _, _]) rfl ?_
            refine px_forget (n := 5) (lv' := [_, _, _, _, _, _, _]) rfl ?_
            exact (r_H_memberSize_185 h :)
    · replace h := (if_neg (fun q => hc ((lg_cmp_le _ _).mpr q))).symm.trans h
      refine px_forget (n := 0) (lv' := [_, _, _, _, _, _, _]) rfl ?_
      refine px_forget (n := 1) (lv' := [_, _, _, _, _, _, _]) rfl ?_
      refine px_forget (n := 2) (lv' := [_, _, _, _, _, _, _]) rfl ?_
      refine px_forget (n := 4) (lv' := [_, _, _, _, _, _, _]) rfl ?_
      refine px_forget (n := 5) (lv' := [_, _, _, _, _, _, _]) rfl ?_
      exact (r_H_memberSize_149 h :)
def f_H_memberSize_116 (F : Nat) (c : px_CT) (k43 : Nat → Int32 → Int64 → Int32 → Int32 → px_H → Option (Int32 × px_H)) (a0 : Nat) (a1 : Int32) (a2 : Int64) (a4 : Int32) (a5 : Int32) (ph : px_H) : Option (Int32 × px_H) :=
  k43 a0 a1 a2 a4 (a5 + nI 1) ph
theorem r_H_memberSize_116 {l : Launch} {g : px_G} {d F : Nat} {k43 : Nat → Int32 → Int64 → Int32 → Int32 → px_H → Option (Int32 × px_H)} (hk43 : ∀ {a0 : Nat} {a1 : Int32} {a2 : Int64} {a4 : Int32} {a5 : Int32} {ph : px_H} {r : Int32} {ph' : px_H}, k43 a0 a1 a2 a4 a5 ph = some (r, ph') → PW l g (d + 2) m_H_memberSize 43 [.ref a0, .int a1, .long a2, px_u, .int a4, .int a5, px_u] [] ph (px_qI r ph')) {a0 : Nat} {a1 : Int32} {a2 : Int64} {a4 : Int32} {a5 : Int32} {ph : px_H} {r : Int32} {ph' : px_H} (h : f_H_memberSize_116 F (px_ct g) k43 a0 a1 a2 a4 a5 ph = some (r, ph')) : PW l g (d + 2) m_H_memberSize 116 [.ref a0, .int a1, .long a2, px_u, .int a4, .int a5, px_u] [] ph (px_qI r ph') := by
  unfold f_H_memberSize_116 at h
  refine px_iinc (lv' := [_, _, _, _, _, _, _]) rfl rfl rfl rfl rfl rfl ?_
  refine px_goto rfl (by decide) rfl ?_
  exact (hk43 h :)
def f_H_memberSize_114 (F : Nat) (c : px_CT) (ph : px_H) : Option (Int32 × px_H) :=
  some (Int32.ofInt (-1), ph)
theorem r_H_memberSize_114 {l : Launch} {g : px_G} {d F : Nat} {ph : px_H} {r : Int32} {ph' : px_H} (h : f_H_memberSize_114 F (px_ct g) ph = some (r, ph')) : PW l g (d + 2) m_H_memberSize 114 [px_u, px_u, px_u, px_u, px_u, px_u, px_u] [] ph (px_qI r ph') := by
  unfold f_H_memberSize_114 at h
  refine px_alu rfl rfl rfl ?_
  cases h
  exact px_iret rfl (Or.inl rfl) rfl ⟨rfl, rfl⟩
def f_H_memberSize_107 (F : Nat) (c : px_CT) (k43 : Nat → Int32 → Int64 → Int32 → Int32 → px_H → Option (Int32 × px_H)) (a0 : Nat) (a1 : Int32) (a2 : Int64) (a4 : Int32) (a5 : Int32) (a6 : Int32) (ph : px_H) : Option (Int32 × px_H) :=
  if a6 = (nI 32) then
    f_H_memberSize_116 F c k43 a0 a1 a2 a4 a5 ph
  else
    f_H_memberSize_114 F c ph
theorem r_H_memberSize_107 {l : Launch} {g : px_G} {d F : Nat} {k43 : Nat → Int32 → Int64 → Int32 → Int32 → px_H → Option (Int32 × px_H)} (hk43 : ∀ {a0 : Nat} {a1 : Int32} {a2 : Int64} {a4 : Int32} {a5 : Int32} {ph : px_H} {r : Int32} {ph' : px_H}, k43 a0 a1 a2 a4 a5 ph = some (r, ph') → PW l g (d + 2) m_H_memberSize 43 [.ref a0, .int a1, .long a2, px_u, .int a4, .int a5, px_u] [] ph (px_qI r ph')) {a0 : Nat} {a1 : Int32} {a2 : Int64} {a4 : Int32} {a5 : Int32} {a6 : Int32} {ph : px_H} {r : Int32} {ph' : px_H} (h : f_H_memberSize_107 F (px_ct g) k43 a0 a1 a2 a4 a5 a6 ph = some (r, ph')) : PW l g (d + 2) m_H_memberSize 107 [.ref a0, .int a1, .long a2, px_u, .int a4, .int a5, .int a6] [] ph (px_qI r ph') := by
  unfold f_H_memberSize_107 at h
  refine px_ld rfl rfl rfl rfl rfl ?_
  refine px_ic (k := 32) rfl rfl rfl ?_
  refine px_iceq rfl (by decide) rfl (fun hc => ?_) (fun hc => ?_)
  · replace h := (if_pos hc).symm.trans h
    refine px_forget (n := 6) (lv' := [_, _, _, _, _, _, _]) rfl ?_
    exact (r_H_memberSize_116 @hk43 h :)
  · replace h := (if_neg hc).symm.trans h
    refine px_forget (n := 0) (lv' := [_, _, _, _, _, _, _]) rfl ?_
    refine px_forget (n := 1) (lv' := [_, _, _, _, _, _, _]) rfl ?_
    refine px_forget (n := 2) (lv' := [_, _, _, _, _, _, _]) rfl ?_
    refine px_forget (n := 4) (lv' := [_, _, _, _, _, _, _]) rfl ?_
    refine px_forget (n := 5) (lv' := [_, _, _, _, _, _, _]) rfl ?_
    refine px_forget (n := 6) (lv' := [_, _, _, _, _, _, _]) rfl ?_
    exact (r_H_memberSize_114 h :)
def f_H_memberSize_43 (F : Nat) (c : px_CT) : Nat → Nat → Int32 → Int64 → Int32 → Int32 → px_H → Option (Int32 × px_H)
  | 0, _, _, _, _, _, _ => none
  | n + 1, a0, a1, a2, a4, a5, ph =>
    if (nI 10) ≤ a5 then
      f_H_memberSize_122 F c a0 a1 a2 a4 ph
    else
      (xgR ph 0 0 a0).bind fun t1 =>
      (xo ph 10 t1).bind fun _ =>
      xb (f_Row_at F c t1 ((a1 + (nI 48)) + a5) ph) fun t2 ph3 =>
      if t2 < (nI 48) then
        f_H_memberSize_107 F c (f_H_memberSize_43 F c n) a0 a1 a2 a4 a5 t2 ph3
      else
        if (nI 57) < t2 then
          f_H_memberSize_107 F c (f_H_memberSize_43 F c n) a0 a1 a2 a4 a5 t2 ph3
        else
          if a4 = a5 then
            f_H_memberSize_116 F c (f_H_memberSize_43 F c n) a0 a1 (((((10 : Int64)) * a2) + t2.toInt64) - ((48 : Int64))) (a4 + nI 1) a5 ph3
          else
            f_H_memberSize_107 F c (f_H_memberSize_43 F c n) a0 a1 a2 a4 a5 t2 ph3
theorem r_H_memberSize_43 {l : Launch} {g : px_G} {d F : Nat} : ∀ (n : Nat) {a0 : Nat} {a1 : Int32} {a2 : Int64} {a4 : Int32} {a5 : Int32} {ph : px_H} {r : Int32} {ph' : px_H}, f_H_memberSize_43 F (px_ct g) n a0 a1 a2 a4 a5 ph = some (r, ph') → PW l g (d + 2) m_H_memberSize 43 [.ref a0, .int a1, .long a2, px_u, .int a4, .int a5, px_u] [] ph (px_qI r ph') := by
  intro n
  induction n with
  | zero => intro _ _ _ _ _ _ _ _ h; cases h
  | succ n ih =>
    intro a0 a1 a2 a4 a5 ph r ph' h
    unfold f_H_memberSize_43 at h
    refine px_ld rfl rfl rfl rfl rfl ?_
    refine px_ic (k := 10) rfl rfl rfl ?_
    refine px_icge rfl (by decide) rfl (fun hc => ?_) (fun hc => ?_)
    · replace h := (if_pos hc).symm.trans h
      refine px_forget (n := 5) (lv' := [_, _, _, _, _, _, _]) rfl ?_
      exact (r_H_memberSize_122 h :)
    · replace h := (if_neg hc).symm.trans h
      refine px_ld rfl rfl rfl rfl rfl ?_
      obtain ⟨t1, h0, h⟩ := xs_some h
      obtain ⟨fs, e1, e2⟩ := xgR_some h0
      refine px_get rfl e1 e2 rfl ?_
      refine px_ld rfl rfl rfl rfl rfl ?_
      refine px_ic (k := 48) rfl rfl rfl ?_
      refine px_alu rfl rfl rfl ?_
      refine px_ld rfl rfl rfl rfl rfl ?_
      refine px_alu rfl rfl rfl ?_
      obtain ⟨fs, h0, h⟩ := xs_some h
      have e1 := xo_some h0
      obtain ⟨t2, ph3, h0, h⟩ := xb_some h
      refine px_cV1 rfl rfl e1 rfl rfl rfl rfl rfl rfl rfl (r_Row_at h0 :) (fun _ _ q => nomatch q.2) (fun r ph' q => ?_)
      obtain ⟨rfl, q⟩ := q
      cases q
      refine px_st (lv' := [_, _, _, _, _, _, _]) rfl rfl rfl rfl rfl rfl rfl ?_
      refine px_ld rfl rfl rfl rfl rfl ?_
      refine px_ic (k := 48) rfl rfl rfl ?_
      refine px_iclt rfl (by decide) rfl (fun hc => ?_) (fun hc => ?_)
      · replace h := (if_pos hc).symm.trans h
        exact (r_H_memberSize_107 @ih h :)
      · replace h := (if_neg hc).symm.trans h
        refine px_ld rfl rfl rfl rfl rfl ?_
        refine px_ic (k := 57) rfl rfl rfl ?_
        refine px_icgt rfl (by decide) rfl (fun hc => ?_) (fun hc => ?_)
        · replace h := (if_pos hc).symm.trans h
          exact (r_H_memberSize_107 @ih h :)
        · replace h := (if_neg hc).symm.trans h
          refine px_ld rfl rfl rfl rfl rfl ?_
          refine px_ld rfl rfl rfl rfl rfl ?_
          refine px_icne rfl (by decide) rfl (fun hc => ?_) (fun hc => ?_)
          · replace h := (if_neg hc).symm.trans h
            exact (r_H_memberSize_107 @ih h :)
          · replace h := (if_pos hc).symm.trans h
            refine px_ldc2 rfl rfl rfl ?_
            refine px_ld rfl rfl rfl rfl rfl ?_
            refine px_alu rfl rfl rfl ?_
            refine px_ld rfl rfl rfl rfl rfl ?_
            refine px_alu rfl rfl rfl ?_
            refine px_alu rfl rfl rfl ?_
            refine px_ldc2 rfl rfl rfl ?_
            refine px_alu rfl rfl rfl ?_
            refine px_st (lv' := [_, _, _, _, _, _, _]) rfl rfl rfl rfl rfl rfl rfl ?_
            refine px_iinc (lv' := [_, _, _, _, _, _, _]) rfl rfl rfl rfl rfl rfl ?_
            refine px_goto rfl (by decide) rfl ?_
            refine px_forget (n := 6) (lv' := [_, _, _, _, _, _, _]) rfl ?_
            exact (r_H_memberSize_116 @ih h :)
def f_H_memberSize_33 (F : Nat) (c : px_CT) (ph : px_H) : Option (Int32 × px_H) :=
  some (Int32.ofInt (-1), ph)
theorem r_H_memberSize_33 {l : Launch} {g : px_G} {d F : Nat} {ph : px_H} {r : Int32} {ph' : px_H} (h : f_H_memberSize_33 F (px_ct g) ph = some (r, ph')) : PW l g (d + 2) m_H_memberSize 33 [px_u, px_u, px_u, px_u, px_u, px_u, px_u] [] ph (px_qI r ph') := by
  unfold f_H_memberSize_33 at h
  refine px_alu rfl rfl rfl ?_
  cases h
  exact px_iret rfl (Or.inl rfl) rfl ⟨rfl, rfl⟩
def f_H_memberSize (F : Nat) (c : px_CT) (a0 : Nat) (a1 : Int32) (ph : px_H) : Option (Int32 × px_H) :=
  (xgR ph 0 0 a0).bind fun t1 =>
  (xgI ph 10 1 t1).bind fun t2 =>
  if (t2 - a1) < (nI 60) then
    f_H_memberSize_33 F c ph
  else
    (xgR ph 0 0 a0).bind fun t3 =>
    (xo ph 10 t3).bind fun _ =>
    xb (f_Row_num F c t3 (a1 + (nI 58)) (nI 2) ph) fun t4 ph5 =>
    if t4 = ((2656 : Int64)) then
      f_H_memberSize_43 F c F a0 a1 (lN 0) (nI 0) (nI 0) ph5
    else
      f_H_memberSize_33 F c ph5
theorem r_H_memberSize {l : Launch} {g : px_G} {d F : Nat} {a0 : Nat} {a1 : Int32} {ph : px_H} {r : Int32} {ph' : px_H} (h : f_H_memberSize F (px_ct g) a0 a1 ph = some (r, ph')) : PW l g (d + 2) m_H_memberSize 0 [.ref a0, .int a1, px_u, px_u, px_u, px_u, px_u] [] ph (px_qI r ph') := by
  unfold f_H_memberSize at h
  refine px_ld rfl rfl rfl rfl rfl ?_
  obtain ⟨t1, h0, h⟩ := xs_some h
  obtain ⟨fs, e1, e2⟩ := xgR_some h0
  refine px_get rfl e1 e2 rfl ?_
  obtain ⟨t2, h0, h⟩ := xs_some h
  obtain ⟨fs, e1, e2⟩ := xgI_some h0
  refine px_get rfl e1 e2 rfl ?_
  refine px_ld rfl rfl rfl rfl rfl ?_
  refine px_alu rfl rfl rfl ?_
  refine px_ic (k := 60) rfl rfl rfl ?_
  refine px_iclt rfl (by decide) rfl (fun hc => ?_) (fun hc => ?_)
  · replace h := (if_pos hc).symm.trans h
    refine px_forget (n := 0) (lv' := [_, _, _, _, _, _, _]) rfl ?_
    refine px_forget (n := 1) (lv' := [_, _, _, _, _, _, _]) rfl ?_
    exact (r_H_memberSize_33 h :)
  · replace h := (if_neg hc).symm.trans h
    refine px_ld rfl rfl rfl rfl rfl ?_
    obtain ⟨t3, h0, h⟩ := xs_some h
    obtain ⟨fs, e1, e2⟩ := xgR_some h0
    refine px_get rfl e1 e2 rfl ?_
    refine px_ld rfl rfl rfl rfl rfl ?_
    refine px_ic (k := 58) rfl rfl rfl ?_
    refine px_alu rfl rfl rfl ?_
    refine px_ic (k := 2) rfl rfl rfl ?_
    obtain ⟨fs, h0, h⟩ := xs_some h
    have e1 := xo_some h0
    obtain ⟨t4, ph5, h0, h⟩ := xb_some h
    refine px_cV2 rfl rfl e1 rfl rfl rfl rfl rfl rfl rfl (r_Row_num h0 :) (fun _ _ q => nomatch q.2) (fun r ph' q => ?_)
    obtain ⟨rfl, q⟩ := q
    cases q
    refine px_ldc2 rfl rfl rfl ?_
    refine px_alu rfl rfl rfl ?_
    refine px_ifeq rfl (by decide) rfl (fun hc => ?_) (fun hc => ?_)
    · replace h := (if_pos ((lg_cmp_eq _ _).mp hc)).symm.trans h
      refine px_alu rfl rfl rfl ?_
      refine px_st (lv' := [_, _, _, _, _, _, _]) rfl rfl rfl rfl rfl rfl rfl ?_
      refine px_ic (k := 0) rfl rfl rfl ?_
      refine px_st (lv' := [_, _, _, _, _, _, _]) rfl rfl rfl rfl rfl rfl rfl ?_
      refine px_ic (k := 0) rfl rfl rfl ?_
      refine px_st (lv' := [_, _, _, _, _, _, _]) rfl rfl rfl rfl rfl rfl rfl ?_
      exact (r_H_memberSize_43 _ h :)
    · replace h := (if_neg (fun q => hc ((lg_cmp_eq _ _).mpr q))).symm.trans h
      refine px_forget (n := 0) (lv' := [_, _, _, _, _, _, _]) rfl ?_
      refine px_forget (n := 1) (lv' := [_, _, _, _, _, _, _]) rfl ?_
      exact (r_H_memberSize_33 h :)
def f_ObjectFile_open (F : Nat) (c : px_CT) (a0 : Nat) (a1 : Int32) (a2 : Int32) (a3 : Int32) (ph : px_H) : Option (Unit × px_H) :=
  (xpI ph 7 4 a0 a1).bind fun ph1 =>
  (xpI ph1 7 5 a0 a2).bind fun ph2 =>
  (xpI ph2 7 6 a0 a3).bind fun ph3 =>
  (xpI ph3 7 8 a0 (nI 0)).bind fun ph4 =>
  (xpI ph4 7 9 a0 (Int32.ofInt (-1))).bind fun ph5 =>
  (xpI ph5 7 11 a0 (nI 0)).bind fun ph6 =>
  (xpZ ph6 7 15 a0 (nI 0)).bind fun ph7 =>
  (xpI ph7 7 16 a0 (nI 0)).bind fun ph8 =>
  some ((), ph8)
theorem r_ObjectFile_open {l : Launch} {g : px_G} {d F : Nat} {a0 : Nat} {a1 : Int32} {a2 : Int32} {a3 : Int32} {ph : px_H} {r : Unit} {ph' : px_H} (h : f_ObjectFile_open F (px_ct g) a0 a1 a2 a3 ph = some (r, ph')) : PW l g (d + 0) m_ObjectFile_open 0 [.ref a0, .int a1, .int a2, .int a3] [] ph (px_qV r ph') := by
  unfold f_ObjectFile_open at h
  refine px_ld rfl rfl rfl rfl rfl ?_
  refine px_ld rfl rfl rfl rfl rfl ?_
  obtain ⟨ph1, h0, h⟩ := xs_some h
  obtain ⟨fs, e1, e2, e3⟩ := xpI_some h0
  subst e3
  refine px_put rfl e1 e2 trivial rfl ?_
  refine px_ld rfl rfl rfl rfl rfl ?_
  refine px_ld rfl rfl rfl rfl rfl ?_
  obtain ⟨ph2, h0, h⟩ := xs_some h
  obtain ⟨fs, e1, e2, e3⟩ := xpI_some h0
  subst e3
  refine px_put rfl e1 e2 trivial rfl ?_
  refine px_ld rfl rfl rfl rfl rfl ?_
  refine px_ld rfl rfl rfl rfl rfl ?_
  obtain ⟨ph3, h0, h⟩ := xs_some h
  obtain ⟨fs, e1, e2, e3⟩ := xpI_some h0
  subst e3
  refine px_put rfl e1 e2 trivial rfl ?_
  refine px_ld rfl rfl rfl rfl rfl ?_
  refine px_ic (k := 0) rfl rfl rfl ?_
  obtain ⟨ph4, h0, h⟩ := xs_some h
  obtain ⟨fs, e1, e2, e3⟩ := xpI_some h0
  subst e3
  refine px_put rfl e1 e2 trivial rfl ?_
  refine px_ld rfl rfl rfl rfl rfl ?_
  refine px_alu rfl rfl rfl ?_
  obtain ⟨ph5, h0, h⟩ := xs_some h
  obtain ⟨fs, e1, e2, e3⟩ := xpI_some h0
  subst e3
  refine px_put rfl e1 e2 trivial rfl ?_
  refine px_ld rfl rfl rfl rfl rfl ?_
  refine px_ic (k := 0) rfl rfl rfl ?_
  obtain ⟨ph6, h0, h⟩ := xs_some h
  obtain ⟨fs, e1, e2, e3⟩ := xpI_some h0
  subst e3
  refine px_put rfl e1 e2 trivial rfl ?_
  refine px_ld rfl rfl rfl rfl rfl ?_
  refine px_ic (k := 0) rfl rfl rfl ?_
  obtain ⟨ph7, h0, h⟩ := xs_some h
  obtain ⟨fs, e1, e2, e3, e4⟩ := xpZ_some h0
  subst e3
  refine px_put rfl e1 e2 e4 rfl ?_
  refine px_ld rfl rfl rfl rfl rfl ?_
  refine px_ic (k := 0) rfl rfl rfl ?_
  obtain ⟨ph8, h0, h⟩ := xs_some h
  obtain ⟨fs, e1, e2, e3⟩ := xpI_some h0
  subst e3
  refine px_put rfl e1 e2 trivial rfl ?_
  cases h
  exact px_vret rfl rfl rfl ⟨rfl, rfl⟩
def f_ObjectFile_isHeadGood_114 (F : Nat) (c : px_CT) (s0 : Int32) (ph : px_H) : Option (Int32 × px_H) :=
  xz s0 ph
theorem r_ObjectFile_isHeadGood_114 {l : Launch} {g : px_G} {d F : Nat} {s0 : Int32} {ph : px_H} {r : Int32} {ph' : px_H} (h : f_ObjectFile_isHeadGood_114 F (px_ct g) s0 ph = some (r, ph')) : PW l g (d + 1) m_ObjectFile_isHeadGood 114 [px_u, px_u] [.int s0] ph (px_qI r ph') := by
  unfold f_ObjectFile_isHeadGood_114 at h
  obtain ⟨e0, e1, e2⟩ := xz_some h
  subst e1 e2
  exact px_iret rfl (Or.inr ⟨rfl, e0⟩) rfl ⟨rfl, rfl⟩
def f_ObjectFile_isHeadGood_113 (F : Nat) (c : px_CT) (ph : px_H) : Option (Int32 × px_H) :=
  f_ObjectFile_isHeadGood_114 F c (nI 0) ph
theorem r_ObjectFile_isHeadGood_113 {l : Launch} {g : px_G} {d F : Nat} {ph : px_H} {r : Int32} {ph' : px_H} (h : f_ObjectFile_isHeadGood_113 F (px_ct g) ph = some (r, ph')) : PW l g (d + 1) m_ObjectFile_isHeadGood 113 [px_u, px_u] [] ph (px_qI r ph') := by
  unfold f_ObjectFile_isHeadGood_113 at h
  refine px_ic (k := 0) rfl rfl rfl ?_
  exact (r_ObjectFile_isHeadGood_114 h :)
def f_ObjectFile_isHeadGood_34 (F : Nat) (c : px_CT) (a0 : Nat) (ph : px_H) : Option (Int32 × px_H) :=
  (xgI ph 7 6 a0).bind fun t1 =>
  if t1 < (nI 64) then
    f_ObjectFile_isHeadGood_113 F c ph
  else
    (xo ph 7 a0).bind fun _ =>
    xb (f_ObjectFile_num F c a0 (nI 16) (nI 2) ph) fun t2 ph3 =>
    if t2 = (lN 1) then
      (xo ph3 7 a0).bind fun _ =>
      xb (f_ObjectFile_num F c a0 (nI 18) (nI 2) ph3) fun t4 ph5 =>
      if t4 = ((62 : Int64)) then
        (xo ph5 7 a0).bind fun _ =>
        xb (f_ObjectFile_num F c a0 (nI 20) (nI 4) ph5) fun t6 ph7 =>
        if t6 = (lN 1) then
          (xo ph7 7 a0).bind fun _ =>
          xb (f_ObjectFile_num F c a0 (nI 52) (nI 2) ph7) fun t8 ph9 =>
          if t8 = ((64 : Int64)) then
            (xo ph9 7 a0).bind fun _ =>
            xb (f_ObjectFile_num F c a0 (nI 58) (nI 2) ph9) fun t10 ph11 =>
            if t10 = ((64 : Int64)) then
              f_ObjectFile_isHeadGood_114 F c (nI 1) ph11
            else
              f_ObjectFile_isHeadGood_113 F c ph11
          else
            f_ObjectFile_isHeadGood_113 F c ph9
        else
          f_ObjectFile_isHeadGood_113 F c ph7
      else
        f_ObjectFile_isHeadGood_113 F c ph5
    else
      f_ObjectFile_isHeadGood_113 F c ph3
theorem r_ObjectFile_isHeadGood_34 {l : Launch} {g : px_G} {d F : Nat} {a0 : Nat} {ph : px_H} {r : Int32} {ph' : px_H} (h : f_ObjectFile_isHeadGood_34 F (px_ct g) a0 ph = some (r, ph')) : PW l g (d + 1) m_ObjectFile_isHeadGood 34 [.ref a0, px_u] [] ph (px_qI r ph') := by
  unfold f_ObjectFile_isHeadGood_34 at h
  refine px_ld rfl rfl rfl rfl rfl ?_
  obtain ⟨t1, h0, h⟩ := xs_some h
  obtain ⟨fs, e1, e2⟩ := xgI_some h0
  refine px_get rfl e1 e2 rfl ?_
  refine px_ic (k := 64) rfl rfl rfl ?_
  refine px_iclt rfl (by decide) rfl (fun hc => ?_) (fun hc => ?_)
  · replace h := (if_pos hc).symm.trans h
    refine px_forget (n := 0) (lv' := [_, _]) rfl ?_
    exact (r_ObjectFile_isHeadGood_113 h :)
  · replace h := (if_neg hc).symm.trans h
    refine px_ld rfl rfl rfl rfl rfl ?_
    refine px_ic (k := 16) rfl rfl rfl ?_
    refine px_ic (k := 2) rfl rfl rfl ?_
    obtain ⟨fs, h0, h⟩ := xs_some h
    have e1 := xo_some h0
    obtain ⟨t2, ph3, h0, h⟩ := xb_some h
    refine px_cV2 rfl rfl e1 rfl rfl rfl rfl rfl rfl rfl (r_ObjectFile_num h0 :) (fun _ _ q => nomatch q.2) (fun r ph' q => ?_)
    obtain ⟨rfl, q⟩ := q
    cases q
    refine px_alu rfl rfl rfl ?_
    refine px_alu rfl rfl rfl ?_
    refine px_ifne rfl (by decide) rfl (fun hc => ?_) (fun hc => ?_)
    · replace h := (if_neg (fun q => hc ((lg_cmp_eq _ _).mpr q))).symm.trans h
      refine px_forget (n := 0) (lv' := [_, _]) rfl ?_
      exact (r_ObjectFile_isHeadGood_113 h :)
    · replace h := (if_pos ((lg_cmp_eq _ _).mp hc)).symm.trans h
      refine px_ld rfl rfl rfl rfl rfl ?_
      refine px_ic (k := 18) rfl rfl rfl ?_
      refine px_ic (k := 2) rfl rfl rfl ?_
      obtain ⟨fs, h0, h⟩ := xs_some h
      have e1 := xo_some h0
      obtain ⟨t4, ph5, h0, h⟩ := xb_some h
      refine px_cV2 rfl rfl e1 rfl rfl rfl rfl rfl rfl rfl (r_ObjectFile_num h0 :) (fun _ _ q => nomatch q.2) (fun r ph' q => ?_)
      obtain ⟨rfl, q⟩ := q
      cases q
      refine px_ldc2 rfl rfl rfl ?_
      refine px_alu rfl rfl rfl ?_
      refine px_ifne rfl (by decide) rfl (fun hc => ?_) (fun hc => ?_)
      · replace h := (if_neg (fun q => hc ((lg_cmp_eq _ _).mpr q))).symm.trans h
        refine px_forget (n := 0) (lv' := [_, _]) rfl ?_
        exact (r_ObjectFile_isHeadGood_113 h :)
      · replace h := (if_pos ((lg_cmp_eq _ _).mp hc)).symm.trans h
        refine px_ld rfl rfl rfl rfl rfl ?_
        refine px_ic (k := 20) rfl rfl rfl ?_
        refine px_ic (k := 4) rfl rfl rfl ?_
        obtain ⟨fs, h0, h⟩ := xs_some h
        have e1 := xo_some h0
        obtain ⟨t6, ph7, h0, h⟩ := xb_some h
        refine px_cV2 rfl rfl e1 rfl rfl rfl rfl rfl rfl rfl (r_ObjectFile_num h0 :) (fun _ _ q => nomatch q.2) (fun r ph' q => ?_)
        obtain ⟨rfl, q⟩ := q
        cases q
        refine px_alu rfl rfl rfl ?_
        refine px_alu rfl rfl rfl ?_
        refine px_ifne rfl (by decide) rfl (fun hc => ?_) (fun hc => ?_)
        · replace h := (if_neg (fun q => hc ((lg_cmp_eq _ _).mpr q))).symm.trans h
          refine px_forget (n := 0) (lv' := [_, _]) rfl ?_
          exact (r_ObjectFile_isHeadGood_113 h :)
        · replace h := (if_pos ((lg_cmp_eq _ _).mp hc)).symm.trans h
          refine px_ld rfl rfl rfl rfl rfl ?_
          refine px_ic (k := 52) rfl rfl rfl ?_
          refine px_ic (k := 2) rfl rfl rfl ?_
          obtain ⟨fs, h0, h⟩ := xs_some h
          have e1 := xo_some h0
          obtain ⟨t8, ph9, h0, h⟩ := xb_some h
          refine px_cV2 rfl rfl e1 rfl rfl rfl rfl rfl rfl rfl (r_ObjectFile_num h0 :) (fun _ _ q => nomatch q.2) (fun r ph' q => ?_)
          obtain ⟨rfl, q⟩ := q
          cases q
          refine px_ldc2 rfl rfl rfl ?_
          refine px_alu rfl rfl rfl ?_
          refine px_ifne rfl (by decide) rfl (fun hc => ?_) (fun hc => ?_)
          · replace h := (if_neg (fun q => hc ((lg_cmp_eq _ _).mpr q))).symm.trans h
            refine px_forget (n := 0) (lv' := [_, _]) rfl ?_
            exact (r_ObjectFile_isHeadGood_113 h :)
          · replace h := (if_pos ((lg_cmp_eq _ _).mp hc)).symm.trans h
            refine px_ld rfl rfl rfl rfl rfl ?_
            refine px_ic (k := 58) rfl rfl rfl ?_
            refine px_ic (k := 2) rfl rfl rfl ?_
            obtain ⟨fs, h0, h⟩ := xs_some h
            have e1 := xo_some h0
            obtain ⟨t10, ph11, h0, h⟩ := xb_some h
            refine px_cV2 rfl rfl e1 rfl rfl rfl rfl rfl rfl rfl (r_ObjectFile_num h0 :) (fun _ _ q => nomatch q.2) (fun r ph' q => ?_)
            obtain ⟨rfl, q⟩ := q
            cases q
            refine px_ldc2 rfl rfl rfl ?_
            refine px_alu rfl rfl rfl ?_
            refine px_ifne rfl (by decide) rfl (fun hc => ?_) (fun hc => ?_)
            · replace h := (if_neg (fun q => hc ((lg_cmp_eq _ _).mpr q))).symm.trans h
              refine px_forget (n := 0) (lv' := [_, _]) rfl ?_
              exact (r_ObjectFile_isHeadGood_113 h :)
            · replace h := (if_pos ((lg_cmp_eq _ _).mp hc)).symm.trans h
              refine px_ic (k := 1) rfl rfl rfl ?_
              refine px_goto rfl (by decide) rfl ?_
              refine px_forget (n := 0) (lv' := [_, _]) rfl ?_
              exact (r_ObjectFile_isHeadGood_114 h :)
def f_ObjectFile_isHeadGood_26 (F : Nat) (c : px_CT) (ph : px_H) : Option (Int32 × px_H) :=
  some (nI 0, ph)
theorem r_ObjectFile_isHeadGood_26 {l : Launch} {g : px_G} {d F : Nat} {ph : px_H} {r : Int32} {ph' : px_H} (h : f_ObjectFile_isHeadGood_26 F (px_ct g) ph = some (r, ph')) : PW l g (d + 1) m_ObjectFile_isHeadGood 26 [px_u, px_u] [] ph (px_qI r ph') := by
  unfold f_ObjectFile_isHeadGood_26 at h
  refine px_ic (k := 0) rfl rfl rfl ?_
  cases h
  exact px_iret rfl (Or.inr ⟨rfl, Or.inl rfl⟩) rfl ⟨rfl, rfl⟩
def f_ObjectFile_isHeadGood_2 (F : Nat) (c : px_CT) : Nat → Nat → Int32 → px_H → Option (Int32 × px_H)
  | 0, _, _, _ => none
  | n + 1, a0, a1, ph =>
    (xkl c 3).bind fun t1 =>
    if t1 ≤ a1 then
      f_ObjectFile_isHeadGood_34 F c a0 ph
    else
      (xo ph 7 a0).bind fun _ =>
      xb (f_ObjectFile_num F c a0 a1 (nI 1) ph) fun t2 ph3 =>
      (xkB c 3 a1).bind fun t4 =>
      if t2 = t4.toInt64 then
        f_ObjectFile_isHeadGood_2 F c n a0 (a1 + nI 1) ph3
      else
        f_ObjectFile_isHeadGood_26 F c ph3
theorem r_ObjectFile_isHeadGood_2 {l : Launch} {g : px_G} {d F : Nat} : ∀ (n : Nat) {a0 : Nat} {a1 : Int32} {ph : px_H} {r : Int32} {ph' : px_H}, f_ObjectFile_isHeadGood_2 F (px_ct g) n a0 a1 ph = some (r, ph') → PW l g (d + 1) m_ObjectFile_isHeadGood 2 [.ref a0, .int a1] [] ph (px_qI r ph') := by
  intro n
  induction n with
  | zero => intro _ _ _ _ _ h; cases h
  | succ n ih =>
    intro a0 a1 ph r ph' h
    unfold f_ObjectFile_isHeadGood_2 at h
    refine px_ld rfl rfl rfl rfl rfl ?_
    refine px_gets rfl rfl ?_
    obtain ⟨t1, h0, h⟩ := xs_some h
    obtain ⟨e0, e3⟩ := xkl_some h0
    subst e3
    refine px_clen rfl e0 rfl ?_
    refine px_icge rfl (by decide) rfl (fun hc => ?_) (fun hc => ?_)
    · replace h := (if_pos hc).symm.trans h
      refine px_forget (n := 1) (lv' := [_, _]) rfl ?_
      exact (r_ObjectFile_isHeadGood_34 h :)
    · replace h := (if_neg hc).symm.trans h
      refine px_ld rfl rfl rfl rfl rfl ?_
      refine px_ld rfl rfl rfl rfl rfl ?_
      refine px_ic (k := 1) rfl rfl rfl ?_
      obtain ⟨fs, h0, h⟩ := xs_some h
      have e1 := xo_some h0
      obtain ⟨t2, ph3, h0, h⟩ := xb_some h
      refine px_cV2 rfl rfl e1 rfl rfl rfl rfl rfl rfl rfl (r_ObjectFile_num h0 :) (fun _ _ q => nomatch q.2) (fun r ph' q => ?_)
      obtain ⟨rfl, q⟩ := q
      cases q
      refine px_gets rfl rfl ?_
      refine px_ld rfl rfl rfl rfl rfl ?_
      obtain ⟨t4, h0, h⟩ := xs_some h
      obtain ⟨e0, e1, e2, e3⟩ := xkB_some h0
      subst e3
      refine px_cbld rfl e0 e1 e2 rfl ?_
      refine px_alu rfl rfl rfl ?_
      refine px_alu rfl rfl rfl ?_
      refine px_ifeq rfl (by decide) rfl (fun hc => ?_) (fun hc => ?_)
      · replace h := (if_pos ((lg_cmp_eq _ _).mp hc)).symm.trans h
        refine px_iinc (lv' := [_, _]) rfl rfl rfl rfl rfl rfl ?_
        refine px_goto rfl (by decide) rfl ?_
        exact (ih h :)
      · replace h := (if_neg (fun q => hc ((lg_cmp_eq _ _).mpr q))).symm.trans h
        refine px_forget (n := 0) (lv' := [_, _]) rfl ?_
        refine px_forget (n := 1) (lv' := [_, _]) rfl ?_
        exact (r_ObjectFile_isHeadGood_26 h :)
def f_ObjectFile_isHeadGood (F : Nat) (c : px_CT) (a0 : Nat) (ph : px_H) : Option (Int32 × px_H) :=
  f_ObjectFile_isHeadGood_2 F c F a0 (nI 0) ph
theorem r_ObjectFile_isHeadGood {l : Launch} {g : px_G} {d F : Nat} {a0 : Nat} {ph : px_H} {r : Int32} {ph' : px_H} (h : f_ObjectFile_isHeadGood F (px_ct g) a0 ph = some (r, ph')) : PW l g (d + 1) m_ObjectFile_isHeadGood 0 [.ref a0, px_u] [] ph (px_qI r ph') := by
  unfold f_ObjectFile_isHeadGood at h
  refine px_ic (k := 0) rfl rfl rfl ?_
  refine px_st (lv' := [_, _]) rfl rfl rfl rfl rfl rfl rfl ?_
  exact (r_ObjectFile_isHeadGood_2 _ h :)
def f_ObjectFile_holds_31 (F : Nat) (c : px_CT) (s0 : Int32) (ph : px_H) : Option (Int32 × px_H) :=
  xz s0 ph
theorem r_ObjectFile_holds_31 {l : Launch} {g : px_G} {d F : Nat} {s0 : Int32} {ph : px_H} {r : Int32} {ph' : px_H} (h : f_ObjectFile_holds_31 F (px_ct g) s0 ph = some (r, ph')) : PW l g (d + 1) m_ObjectFile_holds 31 [px_u, px_u, px_u, px_u, px_u] [.int s0] ph (px_qI r ph') := by
  unfold f_ObjectFile_holds_31 at h
  obtain ⟨e0, e1, e2⟩ := xz_some h
  subst e1 e2
  exact px_iret rfl (Or.inr ⟨rfl, e0⟩) rfl ⟨rfl, rfl⟩
def f_ObjectFile_holds_30 (F : Nat) (c : px_CT) (ph : px_H) : Option (Int32 × px_H) :=
  f_ObjectFile_holds_31 F c (nI 0) ph
theorem r_ObjectFile_holds_30 {l : Launch} {g : px_G} {d F : Nat} {ph : px_H} {r : Int32} {ph' : px_H} (h : f_ObjectFile_holds_30 F (px_ct g) ph = some (r, ph')) : PW l g (d + 1) m_ObjectFile_holds 30 [px_u, px_u, px_u, px_u, px_u] [] ph (px_qI r ph') := by
  unfold f_ObjectFile_holds_30 at h
  refine px_ic (k := 0) rfl rfl rfl ?_
  exact (r_ObjectFile_holds_31 h :)
def f_ObjectFile_holds (F : Nat) (c : px_CT) (a0 : Nat) (a1 : Int64) (a3 : Int64) (ph : px_H) : Option (Int32 × px_H) :=
  (xgI ph 7 6 a0).bind fun t1 =>
  xb (f_H_above F c a1 t1.toInt64 ph) fun t2 ph3 =>
  if t2 = 0 then
    (xgI ph3 7 6 a0).bind fun t4 =>
    xb (f_H_above F c a3 (t4.toInt64 - a1) ph3) fun t5 ph6 =>
    if t5 = 0 then
      f_ObjectFile_holds_31 F c (nI 1) ph6
    else
      f_ObjectFile_holds_30 F c ph6
  else
    f_ObjectFile_holds_30 F c ph3
theorem r_ObjectFile_holds {l : Launch} {g : px_G} {d F : Nat} {a0 : Nat} {a1 : Int64} {a3 : Int64} {ph : px_H} {r : Int32} {ph' : px_H} (h : f_ObjectFile_holds F (px_ct g) a0 a1 a3 ph = some (r, ph')) : PW l g (d + 1) m_ObjectFile_holds 0 [.ref a0, .long a1, px_u, .long a3, px_u] [] ph (px_qI r ph') := by
  unfold f_ObjectFile_holds at h
  refine px_ld rfl rfl rfl rfl rfl ?_
  refine px_ld rfl rfl rfl rfl rfl ?_
  obtain ⟨t1, h0, h⟩ := xs_some h
  obtain ⟨fs, e1, e2⟩ := xgI_some h0
  refine px_get rfl e1 e2 rfl ?_
  refine px_alu rfl rfl rfl ?_
  obtain ⟨t2, ph3, h0, h⟩ := xb_some h
  refine px_cS2 rfl rfl rfl rfl rfl rfl rfl (r_H_above h0 :) (fun _ _ q => nomatch q.2) (fun r ph' q => ?_)
  obtain ⟨rfl, q⟩ := q
  cases q
  refine px_ifne rfl rfl rfl (fun hc => ?_) (fun hc => ?_)
  · replace h := (if_neg hc).symm.trans h
    refine px_forget (n := 0) (lv' := [_, _, _, _, _]) rfl ?_
    refine px_forget (n := 1) (lv' := [_, _, _, _, _]) rfl ?_
    refine px_forget (n := 3) (lv' := [_, _, _, _, _]) rfl ?_
    exact (r_ObjectFile_holds_30 h :)
  · replace h := (if_pos hc).symm.trans h
    refine px_ld rfl rfl rfl rfl rfl ?_
    refine px_ld rfl rfl rfl rfl rfl ?_
    obtain ⟨t4, h0, h⟩ := xs_some h
    obtain ⟨fs, e1, e2⟩ := xgI_some h0
    refine px_get rfl e1 e2 rfl ?_
    refine px_alu rfl rfl rfl ?_
    refine px_ld rfl rfl rfl rfl rfl ?_
    refine px_alu rfl rfl rfl ?_
    obtain ⟨t5, ph6, h0, h⟩ := xb_some h
    refine px_cS2 rfl rfl rfl rfl rfl rfl rfl (r_H_above h0 :) (fun _ _ q => nomatch q.2) (fun r ph' q => ?_)
    obtain ⟨rfl, q⟩ := q
    cases q
    refine px_ifne rfl rfl rfl (fun hc => ?_) (fun hc => ?_)
    · replace h := (if_neg hc).symm.trans h
      refine px_forget (n := 0) (lv' := [_, _, _, _, _]) rfl ?_
      refine px_forget (n := 1) (lv' := [_, _, _, _, _]) rfl ?_
      refine px_forget (n := 3) (lv' := [_, _, _, _, _]) rfl ?_
      exact (r_ObjectFile_holds_30 h :)
    · replace h := (if_pos hc).symm.trans h
      refine px_ic (k := 1) rfl rfl rfl ?_
      refine px_goto rfl rfl rfl ?_
      refine px_forget (n := 0) (lv' := [_, _, _, _, _]) rfl ?_
      refine px_forget (n := 1) (lv' := [_, _, _, _, _]) rfl ?_
      refine px_forget (n := 3) (lv' := [_, _, _, _, _]) rfl ?_
      exact (r_ObjectFile_holds_31 h :)
def f_ObjectFile_areRowsGood_71 (F : Nat) (c : px_CT) (s0 : Int32) (ph : px_H) : Option (Int32 × px_H) :=
  xz s0 ph
theorem r_ObjectFile_areRowsGood_71 {l : Launch} {g : px_G} {d F : Nat} {s0 : Int32} {ph : px_H} {r : Int32} {ph' : px_H} (h : f_ObjectFile_areRowsGood_71 F (px_ct g) s0 ph = some (r, ph')) : PW l g (d + 2) m_ObjectFile_areRowsGood 71 [px_u, px_u, px_u, px_u] [.int s0] ph (px_qI r ph') := by
  unfold f_ObjectFile_areRowsGood_71 at h
  obtain ⟨e0, e1, e2⟩ := xz_some h
  subst e1 e2
  exact px_iret rfl (Or.inr ⟨rfl, e0⟩) rfl ⟨rfl, rfl⟩
def f_ObjectFile_areRowsGood_43 (F : Nat) (c : px_CT) (ph : px_H) : Option (Int32 × px_H) :=
  some (nI 0, ph)
theorem r_ObjectFile_areRowsGood_43 {l : Launch} {g : px_G} {d F : Nat} {ph : px_H} {r : Int32} {ph' : px_H} (h : f_ObjectFile_areRowsGood_43 F (px_ct g) ph = some (r, ph')) : PW l g (d + 2) m_ObjectFile_areRowsGood 43 [px_u, px_u, px_u, px_u] [] ph (px_qI r ph') := by
  unfold f_ObjectFile_areRowsGood_43 at h
  refine px_ic (k := 0) rfl rfl rfl ?_
  cases h
  exact px_iret rfl (Or.inr ⟨rfl, Or.inl rfl⟩) rfl ⟨rfl, rfl⟩
def f_ObjectFile_areRowsGood (F : Nat) (c : px_CT) (a0 : Nat) (ph : px_H) : Option (Int32 × px_H) :=
  (xo ph 7 a0).bind fun _ =>
  xb (f_ObjectFile_num F c a0 (nI 60) (nI 2) ph) fun t1 ph2 =>
  (xo ph2 7 a0).bind fun _ =>
  xb (f_ObjectFile_num F c a0 (nI 40) (nI 8) ph2) fun t3 ph4 =>
  if t1.toInt32 < (nI 1) then
    f_ObjectFile_areRowsGood_43 F c ph4
  else
    if (nI 24) < t1.toInt32 then
      f_ObjectFile_areRowsGood_43 F c ph4
    else
      (xo ph4 7 a0).bind fun _ =>
      xb (f_ObjectFile_holds F c a0 t3 (((64 : Int64)) * t1.toInt32.toInt64) ph4) fun t5 ph6 =>
      if t5 = 0 then
        f_ObjectFile_areRowsGood_43 F c ph6
      else
        (xpI ph6 7 7 a0 t3.toInt32).bind fun ph7 =>
        (xpI ph7 7 8 a0 t1.toInt32).bind fun ph8 =>
        (xo ph8 7 a0).bind fun _ =>
        xb (f_ObjectFile_typeOf F c a0 (nI 0) ph8) fun t9 ph10 =>
        if t9 = (lN 0) then
          f_ObjectFile_areRowsGood_71 F c (nI 1) ph10
        else
          f_ObjectFile_areRowsGood_71 F c (nI 0) ph10
theorem r_ObjectFile_areRowsGood {l : Launch} {g : px_G} {d F : Nat} {a0 : Nat} {ph : px_H} {r : Int32} {ph' : px_H} (h : f_ObjectFile_areRowsGood F (px_ct g) a0 ph = some (r, ph')) : PW l g (d + 2) m_ObjectFile_areRowsGood 0 [.ref a0, px_u, px_u, px_u] [] ph (px_qI r ph') := by
  unfold f_ObjectFile_areRowsGood at h
  refine px_ld rfl rfl rfl rfl rfl ?_
  refine px_ic (k := 60) rfl rfl rfl ?_
  refine px_ic (k := 2) rfl rfl rfl ?_
  obtain ⟨fs, h0, h⟩ := xs_some h
  have e1 := xo_some h0
  obtain ⟨t1, ph2, h0, h⟩ := xb_some h
  refine px_cV2 rfl rfl e1 rfl rfl rfl rfl rfl rfl rfl (r_ObjectFile_num h0 :) (fun _ _ q => nomatch q.2) (fun r ph' q => ?_)
  obtain ⟨rfl, q⟩ := q
  cases q
  refine px_alu rfl rfl rfl ?_
  refine px_st (lv' := [_, _, _, _]) rfl rfl rfl rfl rfl rfl rfl ?_
  refine px_ld rfl rfl rfl rfl rfl ?_
  refine px_ic (k := 40) rfl rfl rfl ?_
  refine px_ic (k := 8) rfl rfl rfl ?_
  obtain ⟨fs, h0, h⟩ := xs_some h
  have e1 := xo_some h0
  obtain ⟨t3, ph4, h0, h⟩ := xb_some h
  refine px_cV2 rfl rfl e1 rfl rfl rfl rfl rfl rfl rfl (r_ObjectFile_num h0 :) (fun _ _ q => nomatch q.2) (fun r ph' q => ?_)
  obtain ⟨rfl, q⟩ := q
  cases q
  refine px_st (lv' := [_, _, _, _]) rfl rfl rfl rfl rfl rfl rfl ?_
  refine px_ld rfl rfl rfl rfl rfl ?_
  refine px_ic (k := 1) rfl rfl rfl ?_
  refine px_iclt rfl rfl rfl (fun hc => ?_) (fun hc => ?_)
  · replace h := (if_pos hc).symm.trans h
    refine px_forget (n := 0) (lv' := [_, _, _, _]) rfl ?_
    refine px_forget (n := 1) (lv' := [_, _, _, _]) rfl ?_
    refine px_forget (n := 2) (lv' := [_, _, _, _]) rfl ?_
    exact (r_ObjectFile_areRowsGood_43 h :)
  · replace h := (if_neg hc).symm.trans h
    refine px_ld rfl rfl rfl rfl rfl ?_
    refine px_ic (k := 24) rfl rfl rfl ?_
    refine px_icgt rfl rfl rfl (fun hc => ?_) (fun hc => ?_)
    · replace h := (if_pos hc).symm.trans h
      refine px_forget (n := 0) (lv' := [_, _, _, _]) rfl ?_
      refine px_forget (n := 1) (lv' := [_, _, _, _]) rfl ?_
      refine px_forget (n := 2) (lv' := [_, _, _, _]) rfl ?_
      exact (r_ObjectFile_areRowsGood_43 h :)
    · replace h := (if_neg hc).symm.trans h
      refine px_ld rfl rfl rfl rfl rfl ?_
      refine px_ld rfl rfl rfl rfl rfl ?_
      refine px_ldc2 rfl rfl rfl ?_
      refine px_ld rfl rfl rfl rfl rfl ?_
      refine px_alu rfl rfl rfl ?_
      refine px_alu rfl rfl rfl ?_
      obtain ⟨fs, h0, h⟩ := xs_some h
      have e1 := xo_some h0
      obtain ⟨t5, ph6, h0, h⟩ := xb_some h
      refine px_cV2 rfl rfl e1 rfl rfl rfl rfl rfl rfl rfl (r_ObjectFile_holds h0 :) (fun _ _ q => nomatch q.2) (fun r ph' q => ?_)
      obtain ⟨rfl, q⟩ := q
      cases q
      refine px_ifne rfl rfl rfl (fun hc => ?_) (fun hc => ?_)
      · replace h := (if_neg hc).symm.trans h
        refine px_ld rfl rfl rfl rfl rfl ?_
        refine px_ld rfl rfl rfl rfl rfl ?_
        refine px_alu rfl rfl rfl ?_
        obtain ⟨ph7, h0, h⟩ := xs_some h
        obtain ⟨fs, e1, e2, e3⟩ := xpI_some h0
        subst e3
        refine px_put rfl e1 e2 trivial rfl ?_
        refine px_ld rfl rfl rfl rfl rfl ?_
        refine px_ld rfl rfl rfl rfl rfl ?_
        obtain ⟨ph8, h0, h⟩ := xs_some h
        obtain ⟨fs, e1, e2, e3⟩ := xpI_some h0
        subst e3
        refine px_put rfl e1 e2 trivial rfl ?_
        refine px_ld rfl rfl rfl rfl rfl ?_
        refine px_ic (k := 0) rfl rfl rfl ?_
        obtain ⟨fs, h0, h⟩ := xs_some h
        have e1 := xo_some h0
        obtain ⟨t9, ph10, h0, h⟩ := xb_some h
        refine px_cV1 rfl rfl e1 rfl rfl rfl rfl rfl rfl rfl (r_ObjectFile_typeOf h0 :) (fun _ _ q => nomatch q.2) (fun r ph' q => ?_)
        obtain ⟨rfl, q⟩ := q
        cases q
        refine px_alu rfl rfl rfl ?_
        refine px_alu rfl rfl rfl ?_
        refine px_ifne rfl rfl rfl (fun hc => ?_) (fun hc => ?_)
        · replace h := (if_neg (fun q => hc ((lg_cmp_eq _ _).mpr q))).symm.trans h
          refine px_ic (k := 0) rfl rfl rfl ?_
          refine px_forget (n := 0) (lv' := [_, _, _, _]) rfl ?_
          refine px_forget (n := 1) (lv' := [_, _, _, _]) rfl ?_
          refine px_forget (n := 2) (lv' := [_, _, _, _]) rfl ?_
          exact (r_ObjectFile_areRowsGood_71 h :)
        · replace h := (if_pos ((lg_cmp_eq _ _).mp hc)).symm.trans h
          refine px_ic (k := 1) rfl rfl rfl ?_
          refine px_goto rfl rfl rfl ?_
          refine px_forget (n := 0) (lv' := [_, _, _, _]) rfl ?_
          refine px_forget (n := 1) (lv' := [_, _, _, _]) rfl ?_
          refine px_forget (n := 2) (lv' := [_, _, _, _]) rfl ?_
          exact (r_ObjectFile_areRowsGood_71 h :)
      · replace h := (if_pos hc).symm.trans h
        refine px_forget (n := 0) (lv' := [_, _, _, _]) rfl ?_
        refine px_forget (n := 1) (lv' := [_, _, _, _]) rfl ?_
        refine px_forget (n := 2) (lv' := [_, _, _, _]) rfl ?_
        exact (r_ObjectFile_areRowsGood_43 h :)
def f_ObjectFile_findGroup_83 (F : Nat) (c : px_CT) (s0 : Int32) (ph : px_H) : Option (Int32 × px_H) :=
  some (s0, ph)
theorem r_ObjectFile_findGroup_83 {l : Launch} {g : px_G} {d F : Nat} {s0 : Int32} {ph : px_H} {r : Int32} {ph' : px_H} (h : f_ObjectFile_findGroup_83 F (px_ct g) s0 ph = some (r, ph')) : PW l g (d + 0) m_ObjectFile_findGroup 83 [px_u, px_u, px_u, px_u] [.int s0] ph (px_qI r ph') := by
  unfold f_ObjectFile_findGroup_83 at h
  cases h
  exact px_iret rfl (Or.inl rfl) rfl ⟨rfl, rfl⟩
def f_ObjectFile_findGroup_47 (F : Nat) (c : px_CT) (s0 : Int32) (ph : px_H) : Option (Int32 × px_H) :=
  some (s0, ph)
theorem r_ObjectFile_findGroup_47 {l : Launch} {g : px_G} {d F : Nat} {s0 : Int32} {ph : px_H} {r : Int32} {ph' : px_H} (h : f_ObjectFile_findGroup_47 F (px_ct g) s0 ph = some (r, ph')) : PW l g (d + 0) m_ObjectFile_findGroup 47 [px_u, px_u, px_u, px_u] [.int s0] ph (px_qI r ph') := by
  unfold f_ObjectFile_findGroup_47 at h
  cases h
  exact px_iret rfl (Or.inl rfl) rfl ⟨rfl, rfl⟩
def f_ObjectFile_findGroup_24 (F : Nat) (c : px_CT) (ph : px_H) : Option (Int32 × px_H) :=
  some (Int32.ofInt (-1), ph)
theorem r_ObjectFile_findGroup_24 {l : Launch} {g : px_G} {d F : Nat} {ph : px_H} {r : Int32} {ph' : px_H} (h : f_ObjectFile_findGroup_24 F (px_ct g) ph = some (r, ph')) : PW l g (d + 0) m_ObjectFile_findGroup 24 [px_u, px_u, px_u, px_u] [] ph (px_qI r ph') := by
  unfold f_ObjectFile_findGroup_24 at h
  refine px_alu rfl rfl rfl ?_
  cases h
  exact px_iret rfl (Or.inl rfl) rfl ⟨rfl, rfl⟩
def f_ObjectFile_findGroup_14 (F : Nat) (c : px_CT) (a0 : Int64) (a2 : Int64) (ph : px_H) : Option (Int32 × px_H) :=
  if (a2 &&& ((2 : Int64))) = (lN 0) then
    f_ObjectFile_findGroup_24 F c ph
  else
    if (a2 &&& ((1024 : Int64))) = (lN 0) then
      if a0 = ((8 : Int64)) then
        some (nI 3, ph)
      else
        if (a2 &&& ((4 : Int64))) = (lN 0) then
          if (a2 &&& (lN 1)) = (lN 0) then
            f_ObjectFile_findGroup_83 F c (nI 1) ph
          else
            f_ObjectFile_findGroup_83 F c (nI 2) ph
        else
          some (nI 0, ph)
    else
      if a0 = (lN 1) then
        f_ObjectFile_findGroup_47 F c (nI 4) ph
      else
        f_ObjectFile_findGroup_47 F c (nI 5) ph
theorem r_ObjectFile_findGroup_14 {l : Launch} {g : px_G} {d F : Nat} {a0 : Int64} {a2 : Int64} {ph : px_H} {r : Int32} {ph' : px_H} (h : f_ObjectFile_findGroup_14 F (px_ct g) a0 a2 ph = some (r, ph')) : PW l g (d + 0) m_ObjectFile_findGroup 14 [.long a0, px_u, .long a2, px_u] [] ph (px_qI r ph') := by
  unfold f_ObjectFile_findGroup_14 at h
  refine px_ld rfl rfl rfl rfl rfl ?_
  refine px_ldc2 rfl rfl rfl ?_
  refine px_alu rfl rfl rfl ?_
  refine px_alu rfl rfl rfl ?_
  refine px_alu rfl rfl rfl ?_
  refine px_ifne rfl rfl rfl (fun hc => ?_) (fun hc => ?_)
  · replace h := (if_neg (fun q => hc ((lg_cmp_eq _ _).mpr q))).symm.trans h
    refine px_ld rfl rfl rfl rfl rfl ?_
    refine px_ldc2 rfl rfl rfl ?_
    refine px_alu rfl rfl rfl ?_
    refine px_alu rfl rfl rfl ?_
    refine px_alu rfl rfl rfl ?_
    refine px_ifeq rfl rfl rfl (fun hc => ?_) (fun hc => ?_)
    · replace h := (if_pos ((lg_cmp_eq _ _).mp hc)).symm.trans h
      refine px_ld rfl rfl rfl rfl rfl ?_
      refine px_ldc2 rfl rfl rfl ?_
      refine px_alu rfl rfl rfl ?_
      refine px_ifne rfl rfl rfl (fun hc => ?_) (fun hc => ?_)
      · replace h := (if_neg (fun q => hc ((lg_cmp_eq _ _).mpr q))).symm.trans h
        refine px_ld rfl rfl rfl rfl rfl ?_
        refine px_ldc2 rfl rfl rfl ?_
        refine px_alu rfl rfl rfl ?_
        refine px_alu rfl rfl rfl ?_
        refine px_alu rfl rfl rfl ?_
        refine px_ifeq rfl rfl rfl (fun hc => ?_) (fun hc => ?_)
        · replace h := (if_pos ((lg_cmp_eq _ _).mp hc)).symm.trans h
          refine px_ld rfl rfl rfl rfl rfl ?_
          refine px_alu rfl rfl rfl ?_
          refine px_alu rfl rfl rfl ?_
          refine px_alu rfl rfl rfl ?_
          refine px_alu rfl rfl rfl ?_
          refine px_ifeq rfl rfl rfl (fun hc => ?_) (fun hc => ?_)
          · replace h := (if_pos ((lg_cmp_eq _ _).mp hc)).symm.trans h
            refine px_ic (k := 1) rfl rfl rfl ?_
            refine px_forget (n := 0) (lv' := [_, _, _, _]) rfl ?_
            refine px_forget (n := 2) (lv' := [_, _, _, _]) rfl ?_
            exact (r_ObjectFile_findGroup_83 h :)
          · replace h := (if_neg (fun q => hc ((lg_cmp_eq _ _).mpr q))).symm.trans h
            refine px_ic (k := 2) rfl rfl rfl ?_
            refine px_goto rfl rfl rfl ?_
            refine px_forget (n := 0) (lv' := [_, _, _, _]) rfl ?_
            refine px_forget (n := 2) (lv' := [_, _, _, _]) rfl ?_
            exact (r_ObjectFile_findGroup_83 h :)
        · replace h := (if_neg (fun q => hc ((lg_cmp_eq _ _).mpr q))).symm.trans h
          refine px_ic (k := 0) rfl rfl rfl ?_
          cases h
          exact px_iret rfl (Or.inl rfl) rfl ⟨rfl, rfl⟩
      · replace h := (if_pos ((lg_cmp_eq _ _).mp hc)).symm.trans h
        refine px_ic (k := 3) rfl rfl rfl ?_
        cases h
        exact px_iret rfl (Or.inl rfl) rfl ⟨rfl, rfl⟩
    · replace h := (if_neg (fun q => hc ((lg_cmp_eq _ _).mpr q))).symm.trans h
      refine px_ld rfl rfl rfl rfl rfl ?_
      refine px_alu rfl rfl rfl ?_
      refine px_alu rfl rfl rfl ?_
      refine px_ifne rfl rfl rfl (fun hc => ?_) (fun hc => ?_)
      · replace h := (if_neg (fun q => hc ((lg_cmp_eq _ _).mpr q))).symm.trans h
        refine px_ic (k := 5) rfl rfl rfl ?_
        refine px_forget (n := 0) (lv' := [_, _, _, _]) rfl ?_
        refine px_forget (n := 2) (lv' := [_, _, _, _]) rfl ?_
        exact (r_ObjectFile_findGroup_47 h :)
      · replace h := (if_pos ((lg_cmp_eq _ _).mp hc)).symm.trans h
        refine px_ic (k := 4) rfl rfl rfl ?_
        refine px_goto rfl rfl rfl ?_
        refine px_forget (n := 0) (lv' := [_, _, _, _]) rfl ?_
        refine px_forget (n := 2) (lv' := [_, _, _, _]) rfl ?_
        exact (r_ObjectFile_findGroup_47 h :)
  · replace h := (if_pos ((lg_cmp_eq _ _).mp hc)).symm.trans h
    refine px_forget (n := 0) (lv' := [_, _, _, _]) rfl ?_
    refine px_forget (n := 2) (lv' := [_, _, _, _]) rfl ?_
    exact (r_ObjectFile_findGroup_24 h :)
def f_ObjectFile_findGroup (F : Nat) (c : px_CT) (a0 : Int64) (a2 : Int64) (ph : px_H) : Option (Int32 × px_H) :=
  if a0 = (lN 1) then
    f_ObjectFile_findGroup_14 F c a0 a2 ph
  else
    if a0 = ((8 : Int64)) then
      f_ObjectFile_findGroup_14 F c a0 a2 ph
    else
      f_ObjectFile_findGroup_24 F c ph
theorem r_ObjectFile_findGroup {l : Launch} {g : px_G} {d F : Nat} {a0 : Int64} {a2 : Int64} {ph : px_H} {r : Int32} {ph' : px_H} (h : f_ObjectFile_findGroup F (px_ct g) a0 a2 ph = some (r, ph')) : PW l g (d + 0) m_ObjectFile_findGroup 0 [.long a0, px_u, .long a2, px_u] [] ph (px_qI r ph') := by
  unfold f_ObjectFile_findGroup at h
  refine px_ld rfl rfl rfl rfl rfl ?_
  refine px_alu rfl rfl rfl ?_
  refine px_alu rfl rfl rfl ?_
  refine px_ifeq rfl rfl rfl (fun hc => ?_) (fun hc => ?_)
  · replace h := (if_pos ((lg_cmp_eq _ _).mp hc)).symm.trans h
    exact (r_ObjectFile_findGroup_14 h :)
  · replace h := (if_neg (fun q => hc ((lg_cmp_eq _ _).mpr q))).symm.trans h
    refine px_ld rfl rfl rfl rfl rfl ?_
    refine px_ldc2 rfl rfl rfl ?_
    refine px_alu rfl rfl rfl ?_
    refine px_ifne rfl rfl rfl (fun hc => ?_) (fun hc => ?_)
    · replace h := (if_neg (fun q => hc ((lg_cmp_eq _ _).mpr q))).symm.trans h
      refine px_forget (n := 0) (lv' := [_, _, _, _]) rfl ?_
      refine px_forget (n := 2) (lv' := [_, _, _, _]) rfl ?_
      exact (r_ObjectFile_findGroup_24 h :)
    · replace h := (if_pos ((lg_cmp_eq _ _).mp hc)).symm.trans h
      exact (r_ObjectFile_findGroup_14 h :)
def f_H_isPower_29 (F : Nat) (c : px_CT) (s0 : Int32) (ph : px_H) : Option (Int32 × px_H) :=
  xz s0 ph
theorem r_H_isPower_29 {l : Launch} {g : px_G} {d F : Nat} {s0 : Int32} {ph : px_H} {r : Int32} {ph' : px_H} (h : f_H_isPower_29 F (px_ct g) s0 ph = some (r, ph')) : PW l g (d + 0) m_H_isPower 29 [px_u, px_u] [.int s0] ph (px_qI r ph') := by
  unfold f_H_isPower_29 at h
  obtain ⟨e0, e1, e2⟩ := xz_some h
  subst e1 e2
  exact px_iret rfl (Or.inr ⟨rfl, e0⟩) rfl ⟨rfl, rfl⟩
def f_H_isPower_28 (F : Nat) (c : px_CT) (ph : px_H) : Option (Int32 × px_H) :=
  f_H_isPower_29 F c (nI 0) ph
theorem r_H_isPower_28 {l : Launch} {g : px_G} {d F : Nat} {ph : px_H} {r : Int32} {ph' : px_H} (h : f_H_isPower_28 F (px_ct g) ph = some (r, ph')) : PW l g (d + 0) m_H_isPower 28 [px_u, px_u] [] ph (px_qI r ph') := by
  unfold f_H_isPower_28 at h
  refine px_ic (k := 0) rfl rfl rfl ?_
  exact (r_H_isPower_29 h :)
def f_H_isPower (F : Nat) (c : px_CT) (a0 : Int64) (ph : px_H) : Option (Int32 × px_H) :=
  if a0 < (lN 1) then
    f_H_isPower_28 F c ph
  else
    if ((4096 : Int64)) < a0 then
      f_H_isPower_28 F c ph
    else
      if (a0 &&& (a0 - (lN 1))) = (lN 0) then
        f_H_isPower_29 F c (nI 1) ph
      else
        f_H_isPower_28 F c ph
theorem r_H_isPower {l : Launch} {g : px_G} {d F : Nat} {a0 : Int64} {ph : px_H} {r : Int32} {ph' : px_H} (h : f_H_isPower F (px_ct g) a0 ph = some (r, ph')) : PW l g (d + 0) m_H_isPower 0 [.long a0, px_u] [] ph (px_qI r ph') := by
  unfold f_H_isPower at h
  refine px_ld rfl rfl rfl rfl rfl ?_
  refine px_alu rfl rfl rfl ?_
  refine px_alu rfl rfl rfl ?_
  refine px_iflt rfl rfl rfl (fun hc => ?_) (fun hc => ?_)
  · replace h := (if_pos ((lg_cmp_lt _ _).mp hc)).symm.trans h
    refine px_forget (n := 0) (lv' := [_, _]) rfl ?_
    exact (r_H_isPower_28 h :)
  · replace h := (if_neg (fun q => hc ((lg_cmp_lt _ _).mpr q))).symm.trans h
    refine px_ld rfl rfl rfl rfl rfl ?_
    refine px_ldc2 rfl rfl rfl ?_
    refine px_alu rfl rfl rfl ?_
    refine px_ifgt rfl rfl rfl (fun hc => ?_) (fun hc => ?_)
    · replace h := (if_pos ((lg_cmp_gt _ _).mp hc)).symm.trans h
      refine px_forget (n := 0) (lv' := [_, _]) rfl ?_
      exact (r_H_isPower_28 h :)
    · replace h := (if_neg (fun q => hc ((lg_cmp_gt _ _).mpr q))).symm.trans h
      refine px_ld rfl rfl rfl rfl rfl ?_
      refine px_ld rfl rfl rfl rfl rfl ?_
      refine px_alu rfl rfl rfl ?_
      refine px_alu rfl rfl rfl ?_
      refine px_alu rfl rfl rfl ?_
      refine px_alu rfl rfl rfl ?_
      refine px_alu rfl rfl rfl ?_
      refine px_ifne rfl rfl rfl (fun hc => ?_) (fun hc => ?_)
      · replace h := (if_neg (fun q => hc ((lg_cmp_eq _ _).mpr q))).symm.trans h
        refine px_forget (n := 0) (lv' := [_, _]) rfl ?_
        exact (r_H_isPower_28 h :)
      · replace h := (if_pos ((lg_cmp_eq _ _).mp hc)).symm.trans h
        refine px_ic (k := 1) rfl rfl rfl ?_
        refine px_goto rfl rfl rfl ?_
        refine px_forget (n := 0) (lv' := [_, _]) rfl ?_
        exact (r_H_isPower_29 h :)
def f_ObjectFile_sectionsError_139 (F : Nat) (c : px_CT) (ph : px_H) : Option (Int32 × px_H) :=
  some (nI 0, ph)
theorem r_ObjectFile_sectionsError_139 {l : Launch} {g : px_G} {d F : Nat} {ph : px_H} {r : Int32} {ph' : px_H} (h : f_ObjectFile_sectionsError_139 F (px_ct g) ph = some (r, ph')) : PW l g (d + 2) m_ObjectFile_sectionsError 139 [px_u, px_u, px_u, px_u, px_u, px_u, px_u] [] ph (px_qI r ph') := by
  unfold f_ObjectFile_sectionsError_139 at h
  refine px_ic (k := 0) rfl rfl rfl ?_
  cases h
  exact px_iret rfl (Or.inl rfl) rfl ⟨rfl, rfl⟩
def f_ObjectFile_sectionsError_133 (F : Nat) (c : px_CT) (k2 : Nat → Int32 → px_H → Option (Int32 × px_H)) (a0 : Nat) (a1 : Int32) (ph : px_H) : Option (Int32 × px_H) :=
  k2 a0 (a1 + nI 1) ph
theorem r_ObjectFile_sectionsError_133 {l : Launch} {g : px_G} {d F : Nat} {k2 : Nat → Int32 → px_H → Option (Int32 × px_H)} (hk2 : ∀ {a0 : Nat} {a1 : Int32} {ph : px_H} {r : Int32} {ph' : px_H}, k2 a0 a1 ph = some (r, ph') → PW l g (d + 2) m_ObjectFile_sectionsError 2 [.ref a0, .int a1, px_u, px_u, px_u, px_u, px_u] [] ph (px_qI r ph')) {a0 : Nat} {a1 : Int32} {ph : px_H} {r : Int32} {ph' : px_H} (h : f_ObjectFile_sectionsError_133 F (px_ct g) k2 a0 a1 ph = some (r, ph')) : PW l g (d + 2) m_ObjectFile_sectionsError 133 [.ref a0, .int a1, px_u, px_u, px_u, px_u, px_u] [] ph (px_qI r ph') := by
  unfold f_ObjectFile_sectionsError_133 at h
  refine px_iinc (lv' := [_, _, _, _, _, _, _]) rfl rfl rfl rfl rfl rfl ?_
  refine px_goto rfl (by decide) rfl ?_
  exact (hk2 h :)
def f_ObjectFile_sectionsError_131 (F : Nat) (c : px_CT) (ph : px_H) : Option (Int32 × px_H) :=
  some (nI 4, ph)
theorem r_ObjectFile_sectionsError_131 {l : Launch} {g : px_G} {d F : Nat} {ph : px_H} {r : Int32} {ph' : px_H} (h : f_ObjectFile_sectionsError_131 F (px_ct g) ph = some (r, ph')) : PW l g (d + 2) m_ObjectFile_sectionsError 131 [px_u, px_u, px_u, px_u, px_u, px_u, px_u] [] ph (px_qI r ph') := by
  unfold f_ObjectFile_sectionsError_131 at h
  refine px_ic (k := 4) rfl rfl rfl ?_
  cases h
  exact px_iret rfl (Or.inl rfl) rfl ⟨rfl, rfl⟩
def f_ObjectFile_sectionsError_115 (F : Nat) (c : px_CT) (k2 : Nat → Int32 → px_H → Option (Int32 × px_H)) (a0 : Nat) (a1 : Int32) (s0 : Int32) (ph : px_H) : Option (Int32 × px_H) :=
  (xgR ph 7 3 a0).bind fun t1 =>
  (xaI ph 0 t1 a1).bind fun t2 =>
  if t2 < 0 then
    f_ObjectFile_sectionsError_133 F c k2 a0 a1 ph
  else
    if s0 = 0 then
      f_ObjectFile_sectionsError_133 F c k2 a0 a1 ph
    else
      f_ObjectFile_sectionsError_131 F c ph
theorem r_ObjectFile_sectionsError_115 {l : Launch} {g : px_G} {d F : Nat} {k2 : Nat → Int32 → px_H → Option (Int32 × px_H)} (hk2 : ∀ {a0 : Nat} {a1 : Int32} {ph : px_H} {r : Int32} {ph' : px_H}, k2 a0 a1 ph = some (r, ph') → PW l g (d + 2) m_ObjectFile_sectionsError 2 [.ref a0, .int a1, px_u, px_u, px_u, px_u, px_u] [] ph (px_qI r ph')) {a0 : Nat} {a1 : Int32} {s0 : Int32} {ph : px_H} {r : Int32} {ph' : px_H} (h : f_ObjectFile_sectionsError_115 F (px_ct g) k2 a0 a1 s0 ph = some (r, ph')) : PW l g (d + 2) m_ObjectFile_sectionsError 115 [.ref a0, .int a1, px_u, px_u, px_u, px_u, px_u] [.int s0] ph (px_qI r ph') := by
  unfold f_ObjectFile_sectionsError_115 at h
  refine px_st (lv' := [_, _, _, _, _, _, _]) rfl rfl rfl rfl rfl rfl rfl ?_
  refine px_ld rfl rfl rfl rfl rfl ?_
  obtain ⟨t1, h0, h⟩ := xs_some h
  obtain ⟨fs, e1, e2⟩ := xgR_some h0
  refine px_get rfl e1 e2 rfl ?_
  refine px_ld rfl rfl rfl rfl rfl ?_
  obtain ⟨t2, h0, h⟩ := xs_some h
  obtain ⟨N, f, e1, e2, e3⟩ := xaI_some h0
  subst e3
  refine px_bald rfl e1 rfl e2 rfl ?_
  refine px_iflt rfl (by decide) rfl (fun hc => ?_) (fun hc => ?_)
  · replace h := (if_pos hc).symm.trans h
    refine px_forget (n := 6) (lv' := [_, _, _, _, _, _, _]) rfl ?_
    exact (r_ObjectFile_sectionsError_133 @hk2 h :)
  · replace h := (if_neg hc).symm.trans h
    refine px_ld rfl rfl rfl rfl rfl ?_
    refine px_ifeq rfl (by decide) rfl (fun hc => ?_) (fun hc => ?_)
    · replace h := (if_pos hc).symm.trans h
      refine px_forget (n := 6) (lv' := [_, _, _, _, _, _, _]) rfl ?_
      exact (r_ObjectFile_sectionsError_133 @hk2 h :)
    · replace h := (if_neg hc).symm.trans h
      refine px_forget (n := 0) (lv' := [_, _, _, _, _, _, _]) rfl ?_
      refine px_forget (n := 1) (lv' := [_, _, _, _, _, _, _]) rfl ?_
      refine px_forget (n := 6) (lv' := [_, _, _, _, _, _, _]) rfl ?_
      exact (r_ObjectFile_sectionsError_131 h :)
def f_ObjectFile_sectionsError_110 (F : Nat) (c : px_CT) (k2 : Nat → Int32 → px_H → Option (Int32 × px_H)) (a0 : Nat) (a1 : Int32) (ph : px_H) : Option (Int32 × px_H) :=
  f_ObjectFile_sectionsError_115 F c k2 a0 a1 (nI 1) ph
theorem r_ObjectFile_sectionsError_110 {l : Launch} {g : px_G} {d F : Nat} {k2 : Nat → Int32 → px_H → Option (Int32 × px_H)} (hk2 : ∀ {a0 : Nat} {a1 : Int32} {ph : px_H} {r : Int32} {ph' : px_H}, k2 a0 a1 ph = some (r, ph') → PW l g (d + 2) m_ObjectFile_sectionsError 2 [.ref a0, .int a1, px_u, px_u, px_u, px_u, px_u] [] ph (px_qI r ph')) {a0 : Nat} {a1 : Int32} {ph : px_H} {r : Int32} {ph' : px_H} (h : f_ObjectFile_sectionsError_110 F (px_ct g) k2 a0 a1 ph = some (r, ph')) : PW l g (d + 2) m_ObjectFile_sectionsError 110 [.ref a0, .int a1, px_u, px_u, px_u, px_u, px_u] [] ph (px_qI r ph') := by
  unfold f_ObjectFile_sectionsError_110 at h
  refine px_ic (k := 1) rfl rfl rfl ?_
  refine px_goto rfl (by decide) rfl ?_
  exact (r_ObjectFile_sectionsError_115 @hk2 h :)
def f_ObjectFile_sectionsError_96 (F : Nat) (c : px_CT) (k2 : Nat → Int32 → px_H → Option (Int32 × px_H)) (a0 : Nat) (a1 : Int32) (ph : px_H) : Option (Int32 × px_H) :=
  (xo ph 7 a0).bind fun _ =>
  xb (f_ObjectFile_lengthOf F c a0 a1 ph) fun t1 ph2 =>
  xb (f_H_above F c t1 ((16384 : Int64)) ph2) fun t3 ph4 =>
  if t3 = 0 then
    f_ObjectFile_sectionsError_115 F c k2 a0 a1 (nI 0) ph4
  else
    f_ObjectFile_sectionsError_110 F c k2 a0 a1 ph4
theorem r_ObjectFile_sectionsError_96 {l : Launch} {g : px_G} {d F : Nat} {k2 : Nat → Int32 → px_H → Option (Int32 × px_H)} (hk2 : ∀ {a0 : Nat} {a1 : Int32} {ph : px_H} {r : Int32} {ph' : px_H}, k2 a0 a1 ph = some (r, ph') → PW l g (d + 2) m_ObjectFile_sectionsError 2 [.ref a0, .int a1, px_u, px_u, px_u, px_u, px_u] [] ph (px_qI r ph')) {a0 : Nat} {a1 : Int32} {ph : px_H} {r : Int32} {ph' : px_H} (h : f_ObjectFile_sectionsError_96 F (px_ct g) k2 a0 a1 ph = some (r, ph')) : PW l g (d + 2) m_ObjectFile_sectionsError 96 [.ref a0, .int a1, px_u, px_u, px_u, px_u, px_u] [] ph (px_qI r ph') := by
  unfold f_ObjectFile_sectionsError_96 at h
  refine px_ld rfl rfl rfl rfl rfl ?_
  refine px_ld rfl rfl rfl rfl rfl ?_
  obtain ⟨fs, h0, h⟩ := xs_some h
  have e1 := xo_some h0
  obtain ⟨t1, ph2, h0, h⟩ := xb_some h
  refine px_cV1 rfl rfl e1 rfl rfl rfl rfl rfl rfl rfl (r_ObjectFile_lengthOf h0 :) (fun _ _ q => nomatch q.2) (fun r ph' q => ?_)
  obtain ⟨rfl, q⟩ := q
  cases q
  refine px_ldc2 rfl rfl rfl ?_
  obtain ⟨t3, ph4, h0, h⟩ := xb_some h
  refine px_cS2 rfl rfl rfl rfl rfl rfl rfl (r_H_above h0 :) (fun _ _ q => nomatch q.2) (fun r ph' q => ?_)
  obtain ⟨rfl, q⟩ := q
  cases q
  refine px_ifeq rfl (by decide) rfl (fun hc => ?_) (fun hc => ?_)
  · replace h := (if_pos hc).symm.trans h
    refine px_ic (k := 0) rfl rfl rfl ?_
    exact (r_ObjectFile_sectionsError_115 @hk2 h :)
  · replace h := (if_neg hc).symm.trans h
    exact (r_ObjectFile_sectionsError_110 @hk2 h :)
def f_ObjectFile_sectionsError_58 (F : Nat) (c : px_CT) (k2 : Nat → Int32 → px_H → Option (Int32 × px_H)) (a0 : Nat) (a1 : Int32) (a2 : Int64) (ph : px_H) : Option (Int32 × px_H) :=
  (xgR ph 7 3 a0).bind fun t1 =>
  (xo ph 7 a0).bind fun _ =>
  xb (f_ObjectFile_flagsOf F c a0 a1 ph) fun t2 ph3 =>
  xb (f_ObjectFile_findGroup F c a2 t2 ph3) fun t4 ph5 =>
  (xsI ph5 0 t1 a1 (t4.toInt8.toInt32.toInt8.toInt32)).bind fun ph6 =>
  (xo ph6 7 a0).bind fun _ =>
  xb (f_ObjectFile_alignOf F c a0 a1 ph6) fun t7 ph8 =>
  if t7 = (lN 0) then
    f_ObjectFile_sectionsError_96 F c k2 a0 a1 ph8
  else
    xb (f_H_isPower F c t7 ph8) fun t9 ph10 =>
    if t9 = 0 then
      f_ObjectFile_sectionsError_110 F c k2 a0 a1 ph10
    else
      f_ObjectFile_sectionsError_96 F c k2 a0 a1 ph10
theorem r_ObjectFile_sectionsError_58 {l : Launch} {g : px_G} {d F : Nat} {k2 : Nat → Int32 → px_H → Option (Int32 × px_H)} (hk2 : ∀ {a0 : Nat} {a1 : Int32} {ph : px_H} {r : Int32} {ph' : px_H}, k2 a0 a1 ph = some (r, ph') → PW l g (d + 2) m_ObjectFile_sectionsError 2 [.ref a0, .int a1, px_u, px_u, px_u, px_u, px_u] [] ph (px_qI r ph')) {a0 : Nat} {a1 : Int32} {a2 : Int64} {ph : px_H} {r : Int32} {ph' : px_H} (h : f_ObjectFile_sectionsError_58 F (px_ct g) k2 a0 a1 a2 ph = some (r, ph')) : PW l g (d + 2) m_ObjectFile_sectionsError 58 [.ref a0, .int a1, .long a2, px_u, px_u, px_u, px_u] [] ph (px_qI r ph') := by
  unfold f_ObjectFile_sectionsError_58 at h
  refine px_ld rfl rfl rfl rfl rfl ?_
  obtain ⟨t1, h0, h⟩ := xs_some h
  obtain ⟨fs, e1, e2⟩ := xgR_some h0
  refine px_get rfl e1 e2 rfl ?_
  refine px_ld rfl rfl rfl rfl rfl ?_
  refine px_ld rfl rfl rfl rfl rfl ?_
  refine px_ld rfl rfl rfl rfl rfl ?_
  refine px_ld rfl rfl rfl rfl rfl ?_
  obtain ⟨fs, h0, h⟩ := xs_some h
  have e1 := xo_some h0
  obtain ⟨t2, ph3, h0, h⟩ := xb_some h
  refine px_cV1 rfl rfl e1 rfl rfl rfl rfl rfl rfl rfl (r_ObjectFile_flagsOf h0 :) (fun _ _ q => nomatch q.2) (fun r ph' q => ?_)
  obtain ⟨rfl, q⟩ := q
  cases q
  obtain ⟨t4, ph5, h0, h⟩ := xb_some h
  refine px_cS2 rfl rfl rfl rfl rfl rfl rfl (r_ObjectFile_findGroup h0 :) (fun _ _ q => nomatch q.2) (fun r ph' q => ?_)
  obtain ⟨rfl, q⟩ := q
  cases q
  refine px_alu rfl rfl rfl ?_
  obtain ⟨ph6, h0, h⟩ := xs_some h
  obtain ⟨N, f, e1, e2, e3⟩ := xsI_some h0
  subst e3
  refine px_bast rfl e1 rfl e2 rfl ?_
  refine px_ld rfl rfl rfl rfl rfl ?_
  refine px_ld rfl rfl rfl rfl rfl ?_
  obtain ⟨fs, h0, h⟩ := xs_some h
  have e1 := xo_some h0
  obtain ⟨t7, ph8, h0, h⟩ := xb_some h
  refine px_cV1 rfl rfl e1 rfl rfl rfl rfl rfl rfl rfl (r_ObjectFile_alignOf h0 :) (fun _ _ q => nomatch q.2) (fun r ph' q => ?_)
  obtain ⟨rfl, q⟩ := q
  cases q
  refine px_st (lv' := [_, _, _, _, _, _, _]) rfl rfl rfl rfl rfl rfl rfl ?_
  refine px_ld rfl rfl rfl rfl rfl ?_
  refine px_alu rfl rfl rfl ?_
  refine px_alu rfl rfl rfl ?_
  refine px_ifeq rfl (by decide) rfl (fun hc => ?_) (fun hc => ?_)
  · replace h := (if_pos ((lg_cmp_eq _ _).mp hc)).symm.trans h
    refine px_forget (n := 2) (lv' := [_, _, _, _, _, _, _]) rfl ?_
    refine px_forget (n := 4) (lv' := [_, _, _, _, _, _, _]) rfl ?_
    exact (r_ObjectFile_sectionsError_96 @hk2 h :)
  · replace h := (if_neg (fun q => hc ((lg_cmp_eq _ _).mpr q))).symm.trans h
    refine px_ld rfl rfl rfl rfl rfl ?_
    obtain ⟨t9, ph10, h0, h⟩ := xb_some h
    refine px_cS1 rfl rfl rfl rfl rfl rfl rfl (r_H_isPower h0 :) (fun _ _ q => nomatch q.2) (fun r ph' q => ?_)
    obtain ⟨rfl, q⟩ := q
    cases q
    refine px_ifeq rfl (by decide) rfl (fun hc => ?_) (fun hc => ?_)
    · replace h := (if_pos hc).symm.trans h
      refine px_forget (n := 2) (lv' := [_, _, _, _, _, _, _]) rfl ?_
      refine px_forget (n := 4) (lv' := [_, _, _, _, _, _, _]) rfl ?_
      exact (r_ObjectFile_sectionsError_110 @hk2 h :)
    · replace h := (if_neg hc).symm.trans h
      refine px_forget (n := 2) (lv' := [_, _, _, _, _, _, _]) rfl ?_
      refine px_forget (n := 4) (lv' := [_, _, _, _, _, _, _]) rfl ?_
      exact (r_ObjectFile_sectionsError_96 @hk2 h :)
def f_ObjectFile_sectionsError_56 (F : Nat) (c : px_CT) (ph : px_H) : Option (Int32 × px_H) :=
  some (nI 3, ph)
theorem r_ObjectFile_sectionsError_56 {l : Launch} {g : px_G} {d F : Nat} {ph : px_H} {r : Int32} {ph' : px_H} (h : f_ObjectFile_sectionsError_56 F (px_ct g) ph = some (r, ph')) : PW l g (d + 2) m_ObjectFile_sectionsError 56 [px_u, px_u, px_u, px_u, px_u, px_u, px_u] [] ph (px_qI r ph') := by
  unfold f_ObjectFile_sectionsError_56 at h
  refine px_ic (k := 3) rfl rfl rfl ?_
  cases h
  exact px_iret rfl (Or.inl rfl) rfl ⟨rfl, rfl⟩
def f_ObjectFile_sectionsError_2 (F : Nat) (c : px_CT) : Nat → Nat → Int32 → px_H → Option (Int32 × px_H)
  | 0, _, _, _ => none
  | n + 1, a0, a1, ph =>
    (xgI ph 7 8 a0).bind fun t1 =>
    if t1 ≤ a1 then
      f_ObjectFile_sectionsError_139 F c ph
    else
      (xgR ph 7 3 a0).bind fun t2 =>
      (xal ph 0 t2).bind fun t3 =>
      if t3 ≤ a1 then
        f_ObjectFile_sectionsError_139 F c ph
      else
        (xo ph 7 a0).bind fun _ =>
        xb (f_ObjectFile_typeOf F c a0 a1 ph) fun t4 ph5 =>
        if t4 = (lN 0) then
          f_ObjectFile_sectionsError_58 F c (f_ObjectFile_sectionsError_2 F c n) a0 a1 t4 ph5
        else
          if t4 = ((8 : Int64)) then
            f_ObjectFile_sectionsError_58 F c (f_ObjectFile_sectionsError_2 F c n) a0 a1 t4 ph5
          else
            (xo ph5 7 a0).bind fun _ =>
            xb (f_ObjectFile_placeOf F c a0 a1 ph5) fun t6 ph7 =>
            (xo ph7 7 a0).bind fun _ =>
            xb (f_ObjectFile_lengthOf F c a0 a1 ph7) fun t8 ph9 =>
            (xo ph9 7 a0).bind fun _ =>
            xb (f_ObjectFile_holds F c a0 t6 t8 ph9) fun t10 ph11 =>
            if t10 = 0 then
              f_ObjectFile_sectionsError_56 F c ph11
            else
              f_ObjectFile_sectionsError_58 F c (f_ObjectFile_sectionsError_2 F c n) a0 a1 t4 ph11
theorem r_ObjectFile_sectionsError_2 {l : Launch} {g : px_G} {d F : Nat} : ∀ (n : Nat) {a0 : Nat} {a1 : Int32} {ph : px_H} {r : Int32} {ph' : px_H}, f_ObjectFile_sectionsError_2 F (px_ct g) n a0 a1 ph = some (r, ph') → PW l g (d + 2) m_ObjectFile_sectionsError 2 [.ref a0, .int a1, px_u, px_u, px_u, px_u, px_u] [] ph (px_qI r ph') := by
  intro n
  induction n with
  | zero => intro _ _ _ _ _ h; cases h
  | succ n ih =>
    intro a0 a1 ph r ph' h
    unfold f_ObjectFile_sectionsError_2 at h
    refine px_ld rfl rfl rfl rfl rfl ?_
    refine px_ld rfl rfl rfl rfl rfl ?_
    obtain ⟨t1, h0, h⟩ := xs_some h
    obtain ⟨fs, e1, e2⟩ := xgI_some h0
    refine px_get rfl e1 e2 rfl ?_
    refine px_icge rfl (by decide) rfl (fun hc => ?_) (fun hc => ?_)
    · replace h := (if_pos hc).symm.trans h
      refine px_forget (n := 0) (lv' := [_, _, _, _, _, _, _]) rfl ?_
      refine px_forget (n := 1) (lv' := [_, _, _, _, _, _, _]) rfl ?_
      exact (r_ObjectFile_sectionsError_139 h :)
    · replace h := (if_neg hc).symm.trans h
      refine px_ld rfl rfl rfl rfl rfl ?_
      refine px_ld rfl rfl rfl rfl rfl ?_
      obtain ⟨t2, h0, h⟩ := xs_some h
      obtain ⟨fs, e1, e2⟩ := xgR_some h0
      refine px_get rfl e1 e2 rfl ?_
      obtain ⟨t3, h0, h⟩ := xs_some h
      obtain ⟨x, e1, e3⟩ := xal_some h0
      subst e3
      refine px_alen rfl e1 rfl rfl ?_
      refine px_icge rfl (by decide) rfl (fun hc => ?_) (fun hc => ?_)
      · replace h := (if_pos hc).symm.trans h
        refine px_forget (n := 0) (lv' := [_, _, _, _, _, _, _]) rfl ?_
        refine px_forget (n := 1) (lv' := [_, _, _, _, _, _, _]) rfl ?_
        exact (r_ObjectFile_sectionsError_139 h :)
      · replace h := (if_neg hc).symm.trans h
        refine px_ld rfl rfl rfl rfl rfl ?_
        refine px_ld rfl rfl rfl rfl rfl ?_
        obtain ⟨fs, h0, h⟩ := xs_some h
        have e1 := xo_some h0
        obtain ⟨t4, ph5, h0, h⟩ := xb_some h
        refine px_cV1 rfl rfl e1 rfl rfl rfl rfl rfl rfl rfl (r_ObjectFile_typeOf h0 :) (fun _ _ q => nomatch q.2) (fun r ph' q => ?_)
        obtain ⟨rfl, q⟩ := q
        cases q
        refine px_st (lv' := [_, _, _, _, _, _, _]) rfl rfl rfl rfl rfl rfl rfl ?_
        refine px_ld rfl rfl rfl rfl rfl ?_
        refine px_alu rfl rfl rfl ?_
        refine px_alu rfl rfl rfl ?_
        refine px_ifeq rfl (by decide) rfl (fun hc => ?_) (fun hc => ?_)
        · replace h := (if_pos ((lg_cmp_eq _ _).mp hc)).symm.trans h
          exact (r_ObjectFile_sectionsError_58 @ih h :)
        · replace h := (if_neg (fun q => hc ((lg_cmp_eq _ _).mpr q))).symm.trans h
          refine px_ld rfl rfl rfl rfl rfl ?_
          refine px_ldc2 rfl rfl rfl ?_
          refine px_alu rfl rfl rfl ?_
          refine px_ifeq rfl (by decide) rfl (fun hc => ?_) (fun hc => ?_)
          · replace h := (if_pos ((lg_cmp_eq _ _).mp hc)).symm.trans h
            exact (r_ObjectFile_sectionsError_58 @ih h :)
          · replace h := (if_neg (fun q => hc ((lg_cmp_eq _ _).mpr q))).symm.trans h
            refine px_ld rfl rfl rfl rfl rfl ?_
            refine px_ld rfl rfl rfl rfl rfl ?_
            refine px_ld rfl rfl rfl rfl rfl ?_
            obtain ⟨fs, h0, h⟩ := xs_some h
            have e1 := xo_some h0
            obtain ⟨t6, ph7, h0, h⟩ := xb_some h
            refine px_cV1 rfl rfl e1 rfl rfl rfl rfl rfl rfl rfl (r_ObjectFile_placeOf h0 :) (fun _ _ q => nomatch q.2) (fun r ph' q => ?_)
            obtain ⟨rfl, q⟩ := q
            cases q
            refine px_ld rfl rfl rfl rfl rfl ?_
            refine px_ld rfl rfl rfl rfl rfl ?_
            obtain ⟨fs, h0, h⟩ := xs_some h
            have e1 := xo_some h0
            obtain ⟨t8, ph9, h0, h⟩ := xb_some h
            refine px_cV1 rfl rfl e1 rfl rfl rfl rfl rfl rfl rfl (r_ObjectFile_lengthOf h0 :) (fun _ _ q => nomatch q.2) (fun r ph' q => ?_)
            obtain ⟨rfl, q⟩ := q
            cases q
            obtain ⟨fs, h0, h⟩ := xs_some h
            have e1 := xo_some h0
            obtain ⟨t10, ph11, h0, h⟩ := xb_some h
            refine px_cV2 rfl rfl e1 rfl rfl rfl rfl rfl rfl rfl (r_ObjectFile_holds h0 :) (fun _ _ q => nomatch q.2) (fun r ph' q => ?_)
            obtain ⟨rfl, q⟩ := q
            cases q
            refine px_ifne rfl (by decide) rfl (fun hc => ?_) (fun hc => ?_)
            · replace h := (if_neg hc).symm.trans h
              exact (r_ObjectFile_sectionsError_58 @ih h :)
            · replace h := (if_pos hc).symm.trans h
              refine px_forget (n := 0) (lv' := [_, _, _, _, _, _, _]) rfl ?_
              refine px_forget (n := 1) (lv' := [_, _, _, _, _, _, _]) rfl ?_
              refine px_forget (n := 2) (lv' := [_, _, _, _, _, _, _]) rfl ?_
              exact (r_ObjectFile_sectionsError_56 h :)
def f_ObjectFile_sectionsError (F : Nat) (c : px_CT) (a0 : Nat) (ph : px_H) : Option (Int32 × px_H) :=
  f_ObjectFile_sectionsError_2 F c F a0 (nI 0) ph
theorem r_ObjectFile_sectionsError {l : Launch} {g : px_G} {d F : Nat} {a0 : Nat} {ph : px_H} {r : Int32} {ph' : px_H} (h : f_ObjectFile_sectionsError F (px_ct g) a0 ph = some (r, ph')) : PW l g (d + 2) m_ObjectFile_sectionsError 0 [.ref a0, px_u, px_u, px_u, px_u, px_u, px_u] [] ph (px_qI r ph') := by
  unfold f_ObjectFile_sectionsError at h
  refine px_ic (k := 0) rfl rfl rfl ?_
  refine px_st (lv' := [_, _, _, _, _, _, _]) rfl rfl rfl rfl rfl rfl rfl ?_
  exact (r_ObjectFile_sectionsError_2 _ h :)
def f_ObjectFile_linkOf (F : Nat) (c : px_CT) (a0 : Nat) (a1 : Int32) (ph : px_H) : Option (Int64 × px_H) :=
  (xgI ph 7 7 a0).bind fun t1 =>
  (xo ph 7 a0).bind fun _ =>
  xb (f_ObjectFile_num F c a0 ((t1 + ((nI 64) * a1)) + (nI 40)) (nI 4) ph) fun t2 ph3 =>
  some (t2, ph3)
theorem r_ObjectFile_linkOf {l : Launch} {g : px_G} {d F : Nat} {a0 : Nat} {a1 : Int32} {ph : px_H} {r : Int64} {ph' : px_H} (h : f_ObjectFile_linkOf F (px_ct g) a0 a1 ph = some (r, ph')) : PW l g (d + 1) m_ObjectFile_linkOf 0 [.ref a0, .int a1] [] ph (px_qJ r ph') := by
  unfold f_ObjectFile_linkOf at h
  refine px_ld rfl rfl rfl rfl rfl ?_
  refine px_ld rfl rfl rfl rfl rfl ?_
  obtain ⟨t1, h0, h⟩ := xs_some h
  obtain ⟨fs, e1, e2⟩ := xgI_some h0
  refine px_get rfl e1 e2 rfl ?_
  refine px_ic (k := 64) rfl rfl rfl ?_
  refine px_ld rfl rfl rfl rfl rfl ?_
  refine px_alu rfl rfl rfl ?_
  refine px_alu rfl rfl rfl ?_
  refine px_ic (k := 40) rfl rfl rfl ?_
  refine px_alu rfl rfl rfl ?_
  refine px_ic (k := 4) rfl rfl rfl ?_
  obtain ⟨fs, h0, h⟩ := xs_some h
  have e1 := xo_some h0
  obtain ⟨t2, ph3, h0, h⟩ := xb_some h
  refine px_cV2 rfl rfl e1 rfl rfl rfl rfl rfl rfl rfl (r_ObjectFile_num h0 :) (fun _ _ q => nomatch q.2) (fun r ph' q => ?_)
  obtain ⟨rfl, q⟩ := q
  cases q
  cases h
  exact px_lret rfl rfl rfl ⟨rfl, rfl⟩
def f_ObjectFile_findSymbols_110 (F : Nat) (c : px_CT) (ph : px_H) : Option (Int32 × px_H) :=
  some (nI 0, ph)
theorem r_ObjectFile_findSymbols_110 {l : Launch} {g : px_G} {d F : Nat} {ph : px_H} {r : Int32} {ph' : px_H} (h : f_ObjectFile_findSymbols_110 F (px_ct g) ph = some (r, ph')) : PW l g (d + 2) m_ObjectFile_findSymbols 110 [px_u, px_u, px_u, px_u, px_u] [] ph (px_qI r ph') := by
  unfold f_ObjectFile_findSymbols_110 at h
  refine px_ic (k := 0) rfl rfl rfl ?_
  cases h
  exact px_iret rfl (Or.inr ⟨rfl, Or.inl rfl⟩) rfl ⟨rfl, rfl⟩
def f_ObjectFile_findSymbols_42 (F : Nat) (c : px_CT) (a0 : Nat) (ph : px_H) : Option (Int32 × px_H) :=
  (xgI ph 7 9 a0).bind fun t1 =>
  if 0 ≤ t1 then
    (xgI ph 7 9 a0).bind fun t2 =>
    (xo ph 7 a0).bind fun _ =>
    xb (f_ObjectFile_lengthOf F c a0 t2 ph) fun t3 ph4 =>
    (xgI ph4 7 9 a0).bind fun t5 =>
    (xo ph4 7 a0).bind fun _ =>
    xb (f_ObjectFile_linkOf F c a0 t5 ph4) fun t6 ph7 =>
    if (t3 - t3 / ((24 : Int64)) * ((24 : Int64))) = (lN 0) then
      if ((1536 : Int64)) < t3 then
        f_ObjectFile_findSymbols_110 F c ph7
      else
        (xgI ph7 7 8 a0).bind fun t8 =>
        if t8.toInt64 ≤ t6 then
          f_ObjectFile_findSymbols_110 F c ph7
        else
          (xo ph7 7 a0).bind fun _ =>
          xb (f_ObjectFile_typeOf F c a0 t6.toInt32 ph7) fun t9 ph10 =>
          if t9 = ((3 : Int64)) then
            (xgI ph10 7 9 a0).bind fun t11 =>
            (xo ph10 7 a0).bind fun _ =>
            xb (f_ObjectFile_placeOf F c a0 t11 ph10) fun t12 ph13 =>
            (xpI ph13 7 10 a0 t12.toInt32).bind fun ph14 =>
            (xpI ph14 7 11 a0 (t3.toInt32 / (nI 24))).bind fun ph15 =>
            (xo ph15 7 a0).bind fun _ =>
            xb (f_ObjectFile_placeOf F c a0 t6.toInt32 ph15) fun t16 ph17 =>
            (xpI ph17 7 12 a0 t16.toInt32).bind fun ph18 =>
            (xo ph18 7 a0).bind fun _ =>
            xb (f_ObjectFile_lengthOf F c a0 t6.toInt32 ph18) fun t19 ph20 =>
            (xpI ph20 7 13 a0 t19.toInt32).bind fun ph21 =>
            some (nI 1, ph21)
          else
            f_ObjectFile_findSymbols_110 F c ph10
    else
      f_ObjectFile_findSymbols_110 F c ph7
  else
    some (nI 1, ph)
theorem r_ObjectFile_findSymbols_42 {l : Launch} {g : px_G} {d F : Nat} {a0 : Nat} {ph : px_H} {r : Int32} {ph' : px_H} (h : f_ObjectFile_findSymbols_42 F (px_ct g) a0 ph = some (r, ph')) : PW l g (d + 2) m_ObjectFile_findSymbols 42 [.ref a0, px_u, px_u, px_u, px_u] [] ph (px_qI r ph') := by
  unfold f_ObjectFile_findSymbols_42 at h
  refine px_ld rfl rfl rfl rfl rfl ?_
  obtain ⟨t1, h0, h⟩ := xs_some h
  obtain ⟨fs, e1, e2⟩ := xgI_some h0
  refine px_get rfl e1 e2 rfl ?_
  refine px_ifge rfl (by decide) rfl (fun hc => ?_) (fun hc => ?_)
  · replace h := (if_pos hc).symm.trans h
    refine px_ld rfl rfl rfl rfl rfl ?_
    refine px_ld rfl rfl rfl rfl rfl ?_
    obtain ⟨t2, h0, h⟩ := xs_some h
    obtain ⟨fs, e1, e2⟩ := xgI_some h0
    refine px_get rfl e1 e2 rfl ?_
    obtain ⟨fs, h0, h⟩ := xs_some h
    have e1 := xo_some h0
    obtain ⟨t3, ph4, h0, h⟩ := xb_some h
    refine px_cV1 rfl rfl e1 rfl rfl rfl rfl rfl rfl rfl (r_ObjectFile_lengthOf h0 :) (fun _ _ q => nomatch q.2) (fun r ph' q => ?_)
    obtain ⟨rfl, q⟩ := q
    cases q
    refine px_st (lv' := [_, _, _, _, _]) rfl rfl rfl rfl rfl rfl rfl ?_
    refine px_ld rfl rfl rfl rfl rfl ?_
    refine px_ld rfl rfl rfl rfl rfl ?_
    obtain ⟨t5, h0, h⟩ := xs_some h
    obtain ⟨fs, e1, e2⟩ := xgI_some h0
    refine px_get rfl e1 e2 rfl ?_
    obtain ⟨fs, h0, h⟩ := xs_some h
    have e1 := xo_some h0
    obtain ⟨t6, ph7, h0, h⟩ := xb_some h
    refine px_cV1 rfl rfl e1 rfl rfl rfl rfl rfl rfl rfl (r_ObjectFile_linkOf h0 :) (fun _ _ q => nomatch q.2) (fun r ph' q => ?_)
    obtain ⟨rfl, q⟩ := q
    cases q
    refine px_st (lv' := [_, _, _, _, _]) rfl rfl rfl rfl rfl rfl rfl ?_
    refine px_ld rfl rfl rfl rfl rfl ?_
    refine px_ldc2 rfl rfl rfl ?_
    refine px_lrem rfl (by decide) rfl ?_
    refine px_alu rfl rfl rfl ?_
    refine px_alu rfl rfl rfl ?_
    refine px_ifne rfl (by decide) rfl (fun hc => ?_) (fun hc => ?_)
    · replace h := (if_neg (fun q => hc ((lg_cmp_eq _ _).mpr q))).symm.trans h
      refine px_forget (n := 0) (lv' := [_, _, _, _, _]) rfl ?_
      refine px_forget (n := 1) (lv' := [_, _, _, _, _]) rfl ?_
      refine px_forget (n := 3) (lv' := [_, _, _, _, _]) rfl ?_
      exact (r_ObjectFile_findSymbols_110 h :)
    · replace h := (if_pos ((lg_cmp_eq _ _).mp hc)).symm.trans h
      refine px_ld rfl rfl rfl rfl rfl ?_
      refine px_ldc2 rfl rfl rfl ?_
      refine px_alu rfl rfl rfl ?_
      refine px_ifgt rfl (by decide) rfl (fun hc => ?_) (fun hc => ?_)
      · replace h := (if_pos ((lg_cmp_gt _ _).mp hc)).symm.trans h
        refine px_forget (n := 0) (lv' := [_, _, _, _, _]) rfl ?_
        refine px_forget (n := 1) (lv' := [_, _, _, _, _]) rfl ?_
        refine px_forget (n := 3) (lv' := [_, _, _, _, _]) rfl ?_
        exact (r_ObjectFile_findSymbols_110 h :)
      · replace h := (if_neg (fun q => hc ((lg_cmp_gt _ _).mpr q))).symm.trans h
        refine px_ld rfl rfl rfl rfl rfl ?_
        refine px_ld rfl rfl rfl rfl rfl ?_
        obtain ⟨t8, h0, h⟩ := xs_some h
        obtain ⟨fs, e1, e2⟩ := xgI_some h0
        refine px_get rfl e1 e2 rfl ?_
        refine px_alu rfl rfl rfl ?_
        refine px_alu rfl rfl rfl ?_
        refine px_ifge rfl (by decide) rfl (fun hc => ?_) (fun hc => ?_)
        · replace h := (if_pos ((lg_cmp_ge _ _).mp hc)).symm.trans h
          refine px_forget (n := 0) (lv' := [_, _, _, _, _]) rfl ?_
          refine px_forget (n := 1) (lv' := [_, _, _, _, _]) rfl ?_
          refine px_forget (n := 3) (lv' := [_, _, _, _, _]) rfl ?_
          exact (r_ObjectFile_findSymbols_110 h :)
        · replace h := (if_neg (fun q => hc ((lg_cmp_ge _ _).mpr q))).symm.trans h
          refine px_ld rfl rfl rfl rfl rfl ?_
          refine px_ld rfl rfl rfl rfl rfl ?_
          refine px_alu rfl rfl rfl ?_
          obtain ⟨fs, h0, h⟩ := xs_some h
          have e1 := xo_some h0
          obtain ⟨t9, ph10, h0, h⟩ := xb_some h
          refine px_cV1 rfl rfl e1 rfl rfl rfl rfl rfl rfl rfl (r_ObjectFile_typeOf h0 :) (fun _ _ q => nomatch q.2) (fun r ph' q => ?_)
          obtain ⟨rfl, q⟩ := q
          cases q
          refine px_ldc2 rfl rfl rfl ?_
          refine px_alu rfl rfl rfl ?_
          refine px_ifeq rfl (by decide) rfl (fun hc => ?_) (fun hc => ?_)
          · replace h := (if_pos ((lg_cmp_eq _ _).mp hc)).symm.trans h
            refine px_ld rfl rfl rfl rfl rfl ?_
            refine px_ld rfl rfl rfl rfl rfl ?_
            refine px_ld rfl rfl rfl rfl rfl ?_
            obtain ⟨t11, h0, h⟩ := xs_some h
            obtain ⟨fs, e1, e2⟩ := xgI_some h0
            refine px_get rfl e1 e2 rfl ?_
            obtain ⟨fs, h0, h⟩ := xs_some h
            have e1 := xo_some h0
            obtain ⟨t12, ph13, h0, h⟩ := xb_some h
            refine px_cV1 rfl rfl e1 rfl rfl rfl rfl rfl rfl rfl (r_ObjectFile_placeOf h0 :) (fun _ _ q => nomatch q.2) (fun r ph' q => ?_)
            obtain ⟨rfl, q⟩ := q
            cases q
            refine px_alu rfl rfl rfl ?_
            obtain ⟨ph14, h0, h⟩ := xs_some h
            obtain ⟨fs, e1, e2, e3⟩ := xpI_some h0
            subst e3
            refine px_put rfl e1 e2 trivial rfl ?_
            refine px_ld rfl rfl rfl rfl rfl ?_
            refine px_ld rfl rfl rfl rfl rfl ?_
            refine px_alu rfl rfl rfl ?_
            refine px_ic (k := 24) rfl rfl rfl ?_
            refine px_idiv rfl (by decide) rfl ?_
            obtain ⟨ph15, h0, h⟩ := xs_some h
            obtain ⟨fs, e1, e2, e3⟩ := xpI_some h0
            subst e3
            refine px_put rfl e1 e2 trivial rfl ?_
            refine px_ld rfl rfl rfl rfl rfl ?_
            refine px_ld rfl rfl rfl rfl rfl ?_
            refine px_ld rfl rfl rfl rfl rfl ?_
            refine px_alu rfl rfl rfl ?_
            obtain ⟨fs, h0, h⟩ := xs_some h
            have e1 := xo_some h0
            obtain ⟨t16, ph17, h0, h⟩ := xb_some h
            refine px_cV1 rfl rfl e1 rfl rfl rfl rfl rfl rfl rfl (r_ObjectFile_placeOf h0 :) (fun _ _ q => nomatch q.2) (fun r ph' q => ?_)
            obtain ⟨rfl, q⟩ := q
            cases q
            refine px_alu rfl rfl rfl ?_
            obtain ⟨ph18, h0, h⟩ := xs_some h
            obtain ⟨fs, e1, e2, e3⟩ := xpI_some h0
            subst e3
            refine px_put rfl e1 e2 trivial rfl ?_
            refine px_ld rfl rfl rfl rfl rfl ?_
            refine px_ld rfl rfl rfl rfl rfl ?_
            refine px_ld rfl rfl rfl rfl rfl ?_
            refine px_alu rfl rfl rfl ?_
            obtain ⟨fs, h0, h⟩ := xs_some h
            have e1 := xo_some h0
            obtain ⟨t19, ph20, h0, h⟩ := xb_some h
            refine px_cV1 rfl rfl e1 rfl rfl rfl rfl rfl rfl rfl (r_ObjectFile_lengthOf h0 :) (fun _ _ q => nomatch q.2) (fun r ph' q => ?_)
            obtain ⟨rfl, q⟩ := q
            cases q
            refine px_alu rfl rfl rfl ?_
            obtain ⟨ph21, h0, h⟩ := xs_some h
            obtain ⟨fs, e1, e2, e3⟩ := xpI_some h0
            subst e3
            refine px_put rfl e1 e2 trivial rfl ?_
            refine px_ic (k := 1) rfl rfl rfl ?_
            cases h
            exact px_iret rfl (Or.inr ⟨rfl, Or.inr rfl⟩) rfl ⟨rfl, rfl⟩
          · replace h := (if_neg (fun q => hc ((lg_cmp_eq _ _).mpr q))).symm.trans h
            refine px_forget (n := 0) (lv' := [_, _, _, _, _]) rfl ?_
            refine px_forget (n := 1) (lv' := [_, _, _, _, _]) rfl ?_
            refine px_forget (n := 3) (lv' := [_, _, _, _, _]) rfl ?_
            exact (r_ObjectFile_findSymbols_110 h :)
  · replace h := (if_neg hc).symm.trans h
    refine px_ic (k := 1) rfl rfl rfl ?_
    cases h
    exact px_iret rfl (Or.inr ⟨rfl, Or.inr rfl⟩) rfl ⟨rfl, rfl⟩
def f_ObjectFile_findSymbols_36 (F : Nat) (c : px_CT) (k2 : Nat → Int32 → px_H → Option (Int32 × px_H)) (a0 : Nat) (a1 : Int32) (ph : px_H) : Option (Int32 × px_H) :=
  k2 a0 (a1 + nI 1) ph
theorem r_ObjectFile_findSymbols_36 {l : Launch} {g : px_G} {d F : Nat} {k2 : Nat → Int32 → px_H → Option (Int32 × px_H)} (hk2 : ∀ {a0 : Nat} {a1 : Int32} {ph : px_H} {r : Int32} {ph' : px_H}, k2 a0 a1 ph = some (r, ph') → PW l g (d + 2) m_ObjectFile_findSymbols 2 [.ref a0, .int a1, px_u, px_u, px_u] [] ph (px_qI r ph')) {a0 : Nat} {a1 : Int32} {ph : px_H} {r : Int32} {ph' : px_H} (h : f_ObjectFile_findSymbols_36 F (px_ct g) k2 a0 a1 ph = some (r, ph')) : PW l g (d + 2) m_ObjectFile_findSymbols 36 [.ref a0, .int a1, px_u, px_u, px_u] [] ph (px_qI r ph') := by
  unfold f_ObjectFile_findSymbols_36 at h
  refine px_iinc (lv' := [_, _, _, _, _]) rfl rfl rfl rfl rfl rfl ?_
  refine px_goto rfl (by decide) rfl ?_
  exact (hk2 h :)
def f_ObjectFile_findSymbols_29 (F : Nat) (c : px_CT) (ph : px_H) : Option (Int32 × px_H) :=
  some (nI 0, ph)
theorem r_ObjectFile_findSymbols_29 {l : Launch} {g : px_G} {d F : Nat} {ph : px_H} {r : Int32} {ph' : px_H} (h : f_ObjectFile_findSymbols_29 F (px_ct g) ph = some (r, ph')) : PW l g (d + 2) m_ObjectFile_findSymbols 29 [px_u, px_u, px_u, px_u, px_u] [] ph (px_qI r ph') := by
  unfold f_ObjectFile_findSymbols_29 at h
  refine px_ic (k := 0) rfl rfl rfl ?_
  cases h
  exact px_iret rfl (Or.inr ⟨rfl, Or.inl rfl⟩) rfl ⟨rfl, rfl⟩
def f_ObjectFile_findSymbols_2 (F : Nat) (c : px_CT) : Nat → Nat → Int32 → px_H → Option (Int32 × px_H)
  | 0, _, _, _ => none
  | n + 1, a0, a1, ph =>
    (xgI ph 7 8 a0).bind fun t1 =>
    if t1 ≤ a1 then
      f_ObjectFile_findSymbols_42 F c a0 ph
    else
      (xo ph 7 a0).bind fun _ =>
      xb (f_ObjectFile_typeOf F c a0 a1 ph) fun t2 ph3 =>
      if t2 = ((2 : Int64)) then
        (xgI ph3 7 9 a0).bind fun t4 =>
        if t4 < 0 then
          (xpI ph3 7 9 a0 a1).bind fun ph5 =>
          f_ObjectFile_findSymbols_36 F c (f_ObjectFile_findSymbols_2 F c n) a0 a1 ph5
        else
          f_ObjectFile_findSymbols_29 F c ph3
      else
        f_ObjectFile_findSymbols_36 F c (f_ObjectFile_findSymbols_2 F c n) a0 a1 ph3
theorem r_ObjectFile_findSymbols_2 {l : Launch} {g : px_G} {d F : Nat} : ∀ (n : Nat) {a0 : Nat} {a1 : Int32} {ph : px_H} {r : Int32} {ph' : px_H}, f_ObjectFile_findSymbols_2 F (px_ct g) n a0 a1 ph = some (r, ph') → PW l g (d + 2) m_ObjectFile_findSymbols 2 [.ref a0, .int a1, px_u, px_u, px_u] [] ph (px_qI r ph') := by
  intro n
  induction n with
  | zero => intro _ _ _ _ _ h; cases h
  | succ n ih =>
    intro a0 a1 ph r ph' h
    unfold f_ObjectFile_findSymbols_2 at h
    refine px_ld rfl rfl rfl rfl rfl ?_
    refine px_ld rfl rfl rfl rfl rfl ?_
    obtain ⟨t1, h0, h⟩ := xs_some h
    obtain ⟨fs, e1, e2⟩ := xgI_some h0
    refine px_get rfl e1 e2 rfl ?_
    refine px_icge rfl (by decide) rfl (fun hc => ?_) (fun hc => ?_)
    · replace h := (if_pos hc).symm.trans h
      refine px_forget (n := 1) (lv' := [_, _, _, _, _]) rfl ?_
      exact (r_ObjectFile_findSymbols_42 h :)
    · replace h := (if_neg hc).symm.trans h
      refine px_ld rfl rfl rfl rfl rfl ?_
      refine px_ld rfl rfl rfl rfl rfl ?_
      obtain ⟨fs, h0, h⟩ := xs_some h
      have e1 := xo_some h0
      obtain ⟨t2, ph3, h0, h⟩ := xb_some h
      refine px_cV1 rfl rfl e1 rfl rfl rfl rfl rfl rfl rfl (r_ObjectFile_typeOf h0 :) (fun _ _ q => nomatch q.2) (fun r ph' q => ?_)
      obtain ⟨rfl, q⟩ := q
      cases q
      refine px_ldc2 rfl rfl rfl ?_
      refine px_alu rfl rfl rfl ?_
      refine px_ifne rfl (by decide) rfl (fun hc => ?_) (fun hc => ?_)
      · replace h := (if_neg (fun q => hc ((lg_cmp_eq _ _).mpr q))).symm.trans h
        exact (r_ObjectFile_findSymbols_36 @ih h :)
      · replace h := (if_pos ((lg_cmp_eq _ _).mp hc)).symm.trans h
        refine px_ld rfl rfl rfl rfl rfl ?_
        obtain ⟨t4, h0, h⟩ := xs_some h
        obtain ⟨fs, e1, e2⟩ := xgI_some h0
        refine px_get rfl e1 e2 rfl ?_
        refine px_iflt rfl (by decide) rfl (fun hc => ?_) (fun hc => ?_)
        · replace h := (if_pos hc).symm.trans h
          refine px_ld rfl rfl rfl rfl rfl ?_
          refine px_ld rfl rfl rfl rfl rfl ?_
          obtain ⟨ph5, h0, h⟩ := xs_some h
          obtain ⟨fs, e1, e2, e3⟩ := xpI_some h0
          subst e3
          refine px_put rfl e1 e2 trivial rfl ?_
          exact (r_ObjectFile_findSymbols_36 @ih h :)
        · replace h := (if_neg hc).symm.trans h
          refine px_forget (n := 0) (lv' := [_, _, _, _, _]) rfl ?_
          refine px_forget (n := 1) (lv' := [_, _, _, _, _]) rfl ?_
          exact (r_ObjectFile_findSymbols_29 h :)
def f_ObjectFile_findSymbols (F : Nat) (c : px_CT) (a0 : Nat) (ph : px_H) : Option (Int32 × px_H) :=
  f_ObjectFile_findSymbols_2 F c F a0 (nI 0) ph
theorem r_ObjectFile_findSymbols {l : Launch} {g : px_G} {d F : Nat} {a0 : Nat} {ph : px_H} {r : Int32} {ph' : px_H} (h : f_ObjectFile_findSymbols F (px_ct g) a0 ph = some (r, ph')) : PW l g (d + 2) m_ObjectFile_findSymbols 0 [.ref a0, px_u, px_u, px_u, px_u] [] ph (px_qI r ph') := by
  unfold f_ObjectFile_findSymbols at h
  refine px_ic (k := 0) rfl rfl rfl ?_
  refine px_st (lv' := [_, _, _, _, _]) rfl rfl rfl rfl rfl rfl rfl ?_
  exact (r_ObjectFile_findSymbols_2 _ h :)
def f_ObjectFile_isNameGood_63 (F : Nat) (c : px_CT) (s0 : Int32) (ph : px_H) : Option (Int32 × px_H) :=
  xz s0 ph
theorem r_ObjectFile_isNameGood_63 {l : Launch} {g : px_G} {d F : Nat} {s0 : Int32} {ph : px_H} {r : Int32} {ph' : px_H} (h : f_ObjectFile_isNameGood_63 F (px_ct g) s0 ph = some (r, ph')) : PW l g (d + 2) m_ObjectFile_isNameGood 63 [px_u, px_u, px_u, px_u, px_u] [.int s0] ph (px_qI r ph') := by
  unfold f_ObjectFile_isNameGood_63 at h
  obtain ⟨e0, e1, e2⟩ := xz_some h
  subst e1 e2
  exact px_iret rfl (Or.inr ⟨rfl, e0⟩) rfl ⟨rfl, rfl⟩
def f_ObjectFile_isNameGood_62 (F : Nat) (c : px_CT) (ph : px_H) : Option (Int32 × px_H) :=
  f_ObjectFile_isNameGood_63 F c (nI 0) ph
theorem r_ObjectFile_isNameGood_62 {l : Launch} {g : px_G} {d F : Nat} {ph : px_H} {r : Int32} {ph' : px_H} (h : f_ObjectFile_isNameGood_62 F (px_ct g) ph = some (r, ph')) : PW l g (d + 2) m_ObjectFile_isNameGood 62 [px_u, px_u, px_u, px_u, px_u] [] ph (px_qI r ph') := by
  unfold f_ObjectFile_isNameGood_62 at h
  refine px_ic (k := 0) rfl rfl rfl ?_
  exact (r_ObjectFile_isNameGood_63 h :)
def f_ObjectFile_isNameGood (F : Nat) (c : px_CT) (a0 : Nat) (a1 : Int32) (ph : px_H) : Option (Int32 × px_H) :=
  (xgI ph 7 10 a0).bind fun t1 =>
  (xo ph 7 a0).bind fun _ =>
  xb (f_ObjectFile_num F c a0 (t1 + ((nI 24) * a1)) (nI 4) ph) fun t2 ph3 =>
  (xgI ph3 7 5 a0).bind fun t4 =>
  (xgI ph3 7 12 a0).bind fun t5 =>
  (xgI ph3 7 13 a0).bind fun t6 =>
  if t6.toInt64 ≤ t2 then
    f_ObjectFile_isNameGood_62 F c ph3
  else
    (xgR ph3 7 0 a0).bind fun t7 =>
    (xgI ph3 7 13 a0).bind fun t8 =>
    (xo ph3 10 t7).bind fun _ =>
    xb (f_Row_nameLength F c t7 ((t4 + t5) + t2.toInt32) ((t4 + t5) + t8) ph3) fun t9 ph10 =>
    if t9 ≤ 0 then
      f_ObjectFile_isNameGood_62 F c ph10
    else
      f_ObjectFile_isNameGood_63 F c (nI 1) ph10
theorem r_ObjectFile_isNameGood {l : Launch} {g : px_G} {d F : Nat} {a0 : Nat} {a1 : Int32} {ph : px_H} {r : Int32} {ph' : px_H} (h : f_ObjectFile_isNameGood F (px_ct g) a0 a1 ph = some (r, ph')) : PW l g (d + 2) m_ObjectFile_isNameGood 0 [.ref a0, .int a1, px_u, px_u, px_u] [] ph (px_qI r ph') := by
  unfold f_ObjectFile_isNameGood at h
  refine px_ld rfl rfl rfl rfl rfl ?_
  refine px_ld rfl rfl rfl rfl rfl ?_
  obtain ⟨t1, h0, h⟩ := xs_some h
  obtain ⟨fs, e1, e2⟩ := xgI_some h0
  refine px_get rfl e1 e2 rfl ?_
  refine px_ic (k := 24) rfl rfl rfl ?_
  refine px_ld rfl rfl rfl rfl rfl ?_
  refine px_alu rfl rfl rfl ?_
  refine px_alu rfl rfl rfl ?_
  refine px_ic (k := 4) rfl rfl rfl ?_
  obtain ⟨fs, h0, h⟩ := xs_some h
  have e1 := xo_some h0
  obtain ⟨t2, ph3, h0, h⟩ := xb_some h
  refine px_cV2 rfl rfl e1 rfl rfl rfl rfl rfl rfl rfl (r_ObjectFile_num h0 :) (fun _ _ q => nomatch q.2) (fun r ph' q => ?_)
  obtain ⟨rfl, q⟩ := q
  cases q
  refine px_st (lv' := [_, _, _, _, _]) rfl rfl rfl rfl rfl rfl rfl ?_
  refine px_ld rfl rfl rfl rfl rfl ?_
  obtain ⟨t4, h0, h⟩ := xs_some h
  obtain ⟨fs, e1, e2⟩ := xgI_some h0
  refine px_get rfl e1 e2 rfl ?_
  refine px_ld rfl rfl rfl rfl rfl ?_
  obtain ⟨t5, h0, h⟩ := xs_some h
  obtain ⟨fs, e1, e2⟩ := xgI_some h0
  refine px_get rfl e1 e2 rfl ?_
  refine px_alu rfl rfl rfl ?_
  refine px_st (lv' := [_, _, _, _, _]) rfl rfl rfl rfl rfl rfl rfl ?_
  refine px_ld rfl rfl rfl rfl rfl ?_
  refine px_ld rfl rfl rfl rfl rfl ?_
  obtain ⟨t6, h0, h⟩ := xs_some h
  obtain ⟨fs, e1, e2⟩ := xgI_some h0
  refine px_get rfl e1 e2 rfl ?_
  refine px_alu rfl rfl rfl ?_
  refine px_alu rfl rfl rfl ?_
  refine px_ifge rfl rfl rfl (fun hc => ?_) (fun hc => ?_)
  · replace h := (if_pos ((lg_cmp_ge _ _).mp hc)).symm.trans h
    refine px_forget (n := 0) (lv' := [_, _, _, _, _]) rfl ?_
    refine px_forget (n := 1) (lv' := [_, _, _, _, _]) rfl ?_
    refine px_forget (n := 2) (lv' := [_, _, _, _, _]) rfl ?_
    refine px_forget (n := 4) (lv' := [_, _, _, _, _]) rfl ?_
    exact (r_ObjectFile_isNameGood_62 h :)
  · replace h := (if_neg (fun q => hc ((lg_cmp_ge _ _).mpr q))).symm.trans h
    refine px_ld rfl rfl rfl rfl rfl ?_
    obtain ⟨t7, h0, h⟩ := xs_some h
    obtain ⟨fs, e1, e2⟩ := xgR_some h0
    refine px_get rfl e1 e2 rfl ?_
    refine px_ld rfl rfl rfl rfl rfl ?_
    refine px_ld rfl rfl rfl rfl rfl ?_
    refine px_alu rfl rfl rfl ?_
    refine px_alu rfl rfl rfl ?_
    refine px_ld rfl rfl rfl rfl rfl ?_
    refine px_ld rfl rfl rfl rfl rfl ?_
    obtain ⟨t8, h0, h⟩ := xs_some h
    obtain ⟨fs, e1, e2⟩ := xgI_some h0
    refine px_get rfl e1 e2 rfl ?_
    refine px_alu rfl rfl rfl ?_
    obtain ⟨fs, h0, h⟩ := xs_some h
    have e1 := xo_some h0
    obtain ⟨t9, ph10, h0, h⟩ := xb_some h
    refine px_cV2 rfl rfl e1 rfl rfl rfl rfl rfl rfl rfl (r_Row_nameLength h0 :) (fun _ _ q => nomatch q.2) (fun r ph' q => ?_)
    obtain ⟨rfl, q⟩ := q
    cases q
    refine px_ifle rfl rfl rfl (fun hc => ?_) (fun hc => ?_)
    · replace h := (if_pos hc).symm.trans h
      refine px_forget (n := 0) (lv' := [_, _, _, _, _]) rfl ?_
      refine px_forget (n := 1) (lv' := [_, _, _, _, _]) rfl ?_
      refine px_forget (n := 2) (lv' := [_, _, _, _, _]) rfl ?_
      refine px_forget (n := 4) (lv' := [_, _, _, _, _]) rfl ?_
      exact (r_ObjectFile_isNameGood_62 h :)
    · replace h := (if_neg hc).symm.trans h
      refine px_ic (k := 1) rfl rfl rfl ?_
      refine px_goto rfl rfl rfl ?_
      refine px_forget (n := 0) (lv' := [_, _, _, _, _]) rfl ?_
      refine px_forget (n := 1) (lv' := [_, _, _, _, _]) rfl ?_
      refine px_forget (n := 2) (lv' := [_, _, _, _, _]) rfl ?_
      refine px_forget (n := 4) (lv' := [_, _, _, _, _]) rfl ?_
      exact (r_ObjectFile_isNameGood_63 h :)
def f_ObjectFile_isSymbolGood_144 (F : Nat) (c : px_CT) (s0 : Int32) (ph : px_H) : Option (Int32 × px_H) :=
  xz s0 ph
theorem r_ObjectFile_isSymbolGood_144 {l : Launch} {g : px_G} {d F : Nat} {s0 : Int32} {ph : px_H} {r : Int32} {ph' : px_H} (h : f_ObjectFile_isSymbolGood_144 F (px_ct g) s0 ph = some (r, ph')) : PW l g (d + 3) m_ObjectFile_isSymbolGood 144 [px_u, px_u, px_u, px_u, px_u] [.int s0] ph (px_qI r ph') := by
  unfold f_ObjectFile_isSymbolGood_144 at h
  obtain ⟨e0, e1, e2⟩ := xz_some h
  subst e1 e2
  exact px_iret rfl (Or.inr ⟨rfl, e0⟩) rfl ⟨rfl, rfl⟩
def f_ObjectFile_isSymbolGood_143 (F : Nat) (c : px_CT) (ph : px_H) : Option (Int32 × px_H) :=
  f_ObjectFile_isSymbolGood_144 F c (nI 0) ph
theorem r_ObjectFile_isSymbolGood_143 {l : Launch} {g : px_G} {d F : Nat} {ph : px_H} {r : Int32} {ph' : px_H} (h : f_ObjectFile_isSymbolGood_143 F (px_ct g) ph = some (r, ph')) : PW l g (d + 3) m_ObjectFile_isSymbolGood 143 [px_u, px_u, px_u, px_u, px_u] [] ph (px_qI r ph') := by
  unfold f_ObjectFile_isSymbolGood_143 at h
  refine px_ic (k := 0) rfl rfl rfl ?_
  exact (r_ObjectFile_isSymbolGood_144 h :)
def f_ObjectFile_isSymbolGood_139 (F : Nat) (c : px_CT) (ph : px_H) : Option (Int32 × px_H) :=
  f_ObjectFile_isSymbolGood_144 F c (nI 1) ph
theorem r_ObjectFile_isSymbolGood_139 {l : Launch} {g : px_G} {d F : Nat} {ph : px_H} {r : Int32} {ph' : px_H} (h : f_ObjectFile_isSymbolGood_139 F (px_ct g) ph = some (r, ph')) : PW l g (d + 3) m_ObjectFile_isSymbolGood 139 [px_u, px_u, px_u, px_u, px_u] [] ph (px_qI r ph') := by
  unfold f_ObjectFile_isSymbolGood_139 at h
  refine px_ic (k := 1) rfl rfl rfl ?_
  refine px_goto rfl (by decide) rfl ?_
  exact (r_ObjectFile_isSymbolGood_144 h :)
def f_ObjectFile_isSymbolGood_93 (F : Nat) (c : px_CT) (ph : px_H) : Option (Int32 × px_H) :=
  some (nI 0, ph)
theorem r_ObjectFile_isSymbolGood_93 {l : Launch} {g : px_G} {d F : Nat} {ph : px_H} {r : Int32} {ph' : px_H} (h : f_ObjectFile_isSymbolGood_93 F (px_ct g) ph = some (r, ph')) : PW l g (d + 3) m_ObjectFile_isSymbolGood 93 [px_u, px_u, px_u, px_u, px_u] [] ph (px_qI r ph') := by
  unfold f_ObjectFile_isSymbolGood_93 at h
  refine px_ic (k := 0) rfl rfl rfl ?_
  cases h
  exact px_iret rfl (Or.inr ⟨rfl, Or.inl rfl⟩) rfl ⟨rfl, rfl⟩
def f_ObjectFile_isSymbolGood_85 (F : Nat) (c : px_CT) (a0 : Nat) (a1 : Int32) (a3 : Int32) (ph : px_H) : Option (Int32 × px_H) :=
  (xo ph 7 a0).bind fun _ =>
  xb (f_ObjectFile_isNameGood F c a0 a1 ph) fun t1 ph2 =>
  if t1 = 0 then
    f_ObjectFile_isSymbolGood_93 F c ph2
  else
    if a3 = ((65522 : Int32)) then
      (xo ph2 7 a0).bind fun _ =>
      xb (f_ObjectFile_valueOf F c a0 a1 ph2) fun t3 ph4 =>
      xb (f_H_isPower F c t3 ph4) fun t5 ph6 =>
      if t5 = 0 then
        f_ObjectFile_isSymbolGood_143 F c ph6
      else
        (xgI ph6 7 10 a0).bind fun t7 =>
        (xo ph6 7 a0).bind fun _ =>
        xb (f_ObjectFile_num F c a0 ((t7 + ((nI 24) * a1)) + (nI 16)) (nI 8) ph6) fun t8 ph9 =>
        xb (f_H_above F c t8 ((16384 : Int64)) ph9) fun t10 ph11 =>
        if t10 = 0 then
          f_ObjectFile_isSymbolGood_139 F c ph11
        else
          f_ObjectFile_isSymbolGood_143 F c ph11
    else
      f_ObjectFile_isSymbolGood_139 F c ph2
theorem r_ObjectFile_isSymbolGood_85 {l : Launch} {g : px_G} {d F : Nat} {a0 : Nat} {a1 : Int32} {a3 : Int32} {ph : px_H} {r : Int32} {ph' : px_H} (h : f_ObjectFile_isSymbolGood_85 F (px_ct g) a0 a1 a3 ph = some (r, ph')) : PW l g (d + 3) m_ObjectFile_isSymbolGood 85 [.ref a0, .int a1, px_u, .int a3, px_u] [] ph (px_qI r ph') := by
  unfold f_ObjectFile_isSymbolGood_85 at h
  refine px_ld rfl rfl rfl rfl rfl ?_
  refine px_ld rfl rfl rfl rfl rfl ?_
  obtain ⟨fs, h0, h⟩ := xs_some h
  have e1 := xo_some h0
  obtain ⟨t1, ph2, h0, h⟩ := xb_some h
  refine px_cV1 rfl rfl e1 rfl rfl rfl rfl rfl rfl rfl (r_ObjectFile_isNameGood h0 :) (fun _ _ q => nomatch q.2) (fun r ph' q => ?_)
  obtain ⟨rfl, q⟩ := q
  cases q
  refine px_ifne rfl (by decide) rfl (fun hc => ?_) (fun hc => ?_)
  · replace h := (if_neg hc).symm.trans h
    refine px_ld rfl rfl rfl rfl rfl ?_
    refine px_ldc rfl (by decide) rfl rfl ?_
    refine px_icne rfl (by decide) rfl (fun hc => ?_) (fun hc => ?_)
    · replace h := (if_neg hc).symm.trans h
      refine px_forget (n := 0) (lv' := [_, _, _, _, _]) rfl ?_
      refine px_forget (n := 1) (lv' := [_, _, _, _, _]) rfl ?_
      refine px_forget (n := 3) (lv' := [_, _, _, _, _]) rfl ?_
      exact (r_ObjectFile_isSymbolGood_139 h :)
    · replace h := (if_pos hc).symm.trans h
      refine px_ld rfl rfl rfl rfl rfl ?_
      refine px_ld rfl rfl rfl rfl rfl ?_
      obtain ⟨fs, h0, h⟩ := xs_some h
      have e1 := xo_some h0
      obtain ⟨t3, ph4, h0, h⟩ := xb_some h
      refine px_cV1 rfl rfl e1 rfl rfl rfl rfl rfl rfl rfl (r_ObjectFile_valueOf h0 :) (fun _ _ q => nomatch q.2) (fun r ph' q => ?_)
      obtain ⟨rfl, q⟩ := q
      cases q
      obtain ⟨t5, ph6, h0, h⟩ := xb_some h
      refine px_cS1 rfl rfl rfl rfl rfl rfl rfl (r_H_isPower h0 :) (fun _ _ q => nomatch q.2) (fun r ph' q => ?_)
      obtain ⟨rfl, q⟩ := q
      cases q
      refine px_ifeq rfl (by decide) rfl (fun hc => ?_) (fun hc => ?_)
      · replace h := (if_pos hc).symm.trans h
        refine px_forget (n := 0) (lv' := [_, _, _, _, _]) rfl ?_
        refine px_forget (n := 1) (lv' := [_, _, _, _, _]) rfl ?_
        refine px_forget (n := 3) (lv' := [_, _, _, _, _]) rfl ?_
        exact (r_ObjectFile_isSymbolGood_143 h :)
      · replace h := (if_neg hc).symm.trans h
        refine px_ld rfl rfl rfl rfl rfl ?_
        refine px_ld rfl rfl rfl rfl rfl ?_
        obtain ⟨t7, h0, h⟩ := xs_some h
        obtain ⟨fs, e1, e2⟩ := xgI_some h0
        refine px_get rfl e1 e2 rfl ?_
        refine px_ic (k := 24) rfl rfl rfl ?_
        refine px_ld rfl rfl rfl rfl rfl ?_
        refine px_alu rfl rfl rfl ?_
        refine px_alu rfl rfl rfl ?_
        refine px_ic (k := 16) rfl rfl rfl ?_
        refine px_alu rfl rfl rfl ?_
        refine px_ic (k := 8) rfl rfl rfl ?_
        obtain ⟨fs, h0, h⟩ := xs_some h
        have e1 := xo_some h0
        obtain ⟨t8, ph9, h0, h⟩ := xb_some h
        refine px_cV2 rfl rfl e1 rfl rfl rfl rfl rfl rfl rfl (r_ObjectFile_num h0 :) (fun _ _ q => nomatch q.2) (fun r ph' q => ?_)
        obtain ⟨rfl, q⟩ := q
        cases q
        refine px_ldc2 rfl rfl rfl ?_
        obtain ⟨t10, ph11, h0, h⟩ := xb_some h
        refine px_cS2 rfl rfl rfl rfl rfl rfl rfl (r_H_above h0 :) (fun _ _ q => nomatch q.2) (fun r ph' q => ?_)
        obtain ⟨rfl, q⟩ := q
        cases q
        refine px_ifne rfl (by decide) rfl (fun hc => ?_) (fun hc => ?_)
        · replace h := (if_neg hc).symm.trans h
          refine px_forget (n := 0) (lv' := [_, _, _, _, _]) rfl ?_
          refine px_forget (n := 1) (lv' := [_, _, _, _, _]) rfl ?_
          refine px_forget (n := 3) (lv' := [_, _, _, _, _]) rfl ?_
          exact (r_ObjectFile_isSymbolGood_143 h :)
        · replace h := (if_pos hc).symm.trans h
          refine px_forget (n := 0) (lv' := [_, _, _, _, _]) rfl ?_
          refine px_forget (n := 1) (lv' := [_, _, _, _, _]) rfl ?_
          refine px_forget (n := 3) (lv' := [_, _, _, _, _]) rfl ?_
          exact (r_ObjectFile_isSymbolGood_139 h :)
  · replace h := (if_pos hc).symm.trans h
    refine px_forget (n := 0) (lv' := [_, _, _, _, _]) rfl ?_
    refine px_forget (n := 1) (lv' := [_, _, _, _, _]) rfl ?_
    refine px_forget (n := 3) (lv' := [_, _, _, _, _]) rfl ?_
    exact (r_ObjectFile_isSymbolGood_93 h :)
def f_ObjectFile_isSymbolGood_70 (F : Nat) (c : px_CT) (s0 : Int32) (ph : px_H) : Option (Int32 × px_H) :=
  xz s0 ph
theorem r_ObjectFile_isSymbolGood_70 {l : Launch} {g : px_G} {d F : Nat} {s0 : Int32} {ph : px_H} {r : Int32} {ph' : px_H} (h : f_ObjectFile_isSymbolGood_70 F (px_ct g) s0 ph = some (r, ph')) : PW l g (d + 3) m_ObjectFile_isSymbolGood 70 [px_u, px_u, px_u, px_u, px_u] [.int s0] ph (px_qI r ph') := by
  unfold f_ObjectFile_isSymbolGood_70 at h
  obtain ⟨e0, e1, e2⟩ := xz_some h
  subst e1 e2
  exact px_iret rfl (Or.inr ⟨rfl, e0⟩) rfl ⟨rfl, rfl⟩
def f_ObjectFile_isSymbolGood_55 (F : Nat) (c : px_CT) (a0 : Nat) (a1 : Int32) (a2 : Int32) (a3 : Int32) (a4 : Int32) (ph : px_H) : Option (Int32 × px_H) :=
  if a2 = 0 then
    if a3 = ((65522 : Int32)) then
      f_ObjectFile_isSymbolGood_70 F c (nI 0) ph
    else
      f_ObjectFile_isSymbolGood_70 F c (nI 1) ph
  else
    if a4 = 0 then
      (xo ph 7 a0).bind fun _ =>
      xb (f_ObjectFile_groupOf F c a0 a3.toInt64 ph) fun t1 ph2 =>
      if t1 < 0 then
        f_ObjectFile_isSymbolGood_93 F c ph2
      else
        f_ObjectFile_isSymbolGood_85 F c a0 a1 a3 ph2
    else
      f_ObjectFile_isSymbolGood_85 F c a0 a1 a3 ph
theorem r_ObjectFile_isSymbolGood_55 {l : Launch} {g : px_G} {d F : Nat} {a0 : Nat} {a1 : Int32} {a2 : Int32} {a3 : Int32} {a4 : Int32} {ph : px_H} {r : Int32} {ph' : px_H} (h : f_ObjectFile_isSymbolGood_55 F (px_ct g) a0 a1 a2 a3 a4 ph = some (r, ph')) : PW l g (d + 3) m_ObjectFile_isSymbolGood 55 [.ref a0, .int a1, .int a2, .int a3, .int a4] [] ph (px_qI r ph') := by
  unfold f_ObjectFile_isSymbolGood_55 at h
  refine px_ld rfl rfl rfl rfl rfl ?_
  refine px_ifne rfl (by decide) rfl (fun hc => ?_) (fun hc => ?_)
  · replace h := (if_neg hc).symm.trans h
    refine px_ld rfl rfl rfl rfl rfl ?_
    refine px_ifne rfl (by decide) rfl (fun hc => ?_) (fun hc => ?_)
    · replace h := (if_neg hc).symm.trans h
      refine px_forget (n := 2) (lv' := [_, _, _, _, _]) rfl ?_
      refine px_forget (n := 4) (lv' := [_, _, _, _, _]) rfl ?_
      exact (r_ObjectFile_isSymbolGood_85 h :)
    · replace h := (if_pos hc).symm.trans h
      refine px_ld rfl rfl rfl rfl rfl ?_
      refine px_ld rfl rfl rfl rfl rfl ?_
      refine px_alu rfl rfl rfl ?_
      obtain ⟨fs, h0, h⟩ := xs_some h
      have e1 := xo_some h0
      obtain ⟨t1, ph2, h0, h⟩ := xb_some h
      refine px_cV1 rfl rfl e1 rfl rfl rfl rfl rfl rfl rfl (r_ObjectFile_groupOf h0 :) (fun _ _ q => nomatch q.2) (fun r ph' q => ?_)
      obtain ⟨rfl, q⟩ := q
      cases q
      refine px_iflt rfl (by decide) rfl (fun hc => ?_) (fun hc => ?_)
      · replace h := (if_pos hc).symm.trans h
        refine px_forget (n := 0) (lv' := [_, _, _, _, _]) rfl ?_
        refine px_forget (n := 1) (lv' := [_, _, _, _, _]) rfl ?_
        refine px_forget (n := 2) (lv' := [_, _, _, _, _]) rfl ?_
        refine px_forget (n := 3) (lv' := [_, _, _, _, _]) rfl ?_
        refine px_forget (n := 4) (lv' := [_, _, _, _, _]) rfl ?_
        exact (r_ObjectFile_isSymbolGood_93 h :)
      · replace h := (if_neg hc).symm.trans h
        refine px_forget (n := 2) (lv' := [_, _, _, _, _]) rfl ?_
        refine px_forget (n := 4) (lv' := [_, _, _, _, _]) rfl ?_
        exact (r_ObjectFile_isSymbolGood_85 h :)
  · replace h := (if_pos hc).symm.trans h
    refine px_ld rfl rfl rfl rfl rfl ?_
    refine px_ldc rfl (by decide) rfl rfl ?_
    refine px_iceq rfl (by decide) rfl (fun hc => ?_) (fun hc => ?_)
    · replace h := (if_pos hc).symm.trans h
      refine px_ic (k := 0) rfl rfl rfl ?_
      refine px_forget (n := 0) (lv' := [_, _, _, _, _]) rfl ?_
      refine px_forget (n := 1) (lv' := [_, _, _, _, _]) rfl ?_
      refine px_forget (n := 2) (lv' := [_, _, _, _, _]) rfl ?_
      refine px_forget (n := 3) (lv' := [_, _, _, _, _]) rfl ?_
      refine px_forget (n := 4) (lv' := [_, _, _, _, _]) rfl ?_
      exact (r_ObjectFile_isSymbolGood_70 h :)
    · replace h := (if_neg hc).symm.trans h
      refine px_ic (k := 1) rfl rfl rfl ?_
      refine px_goto rfl (by decide) rfl ?_
      refine px_forget (n := 0) (lv' := [_, _, _, _, _]) rfl ?_
      refine px_forget (n := 1) (lv' := [_, _, _, _, _]) rfl ?_
      refine px_forget (n := 2) (lv' := [_, _, _, _, _]) rfl ?_
      refine px_forget (n := 3) (lv' := [_, _, _, _, _]) rfl ?_
      refine px_forget (n := 4) (lv' := [_, _, _, _, _]) rfl ?_
      exact (r_ObjectFile_isSymbolGood_70 h :)
def f_ObjectFile_isSymbolGood_53 (F : Nat) (c : px_CT) (ph : px_H) : Option (Int32 × px_H) :=
  some (nI 0, ph)
theorem r_ObjectFile_isSymbolGood_53 {l : Launch} {g : px_G} {d F : Nat} {ph : px_H} {r : Int32} {ph' : px_H} (h : f_ObjectFile_isSymbolGood_53 F (px_ct g) ph = some (r, ph')) : PW l g (d + 3) m_ObjectFile_isSymbolGood 53 [px_u, px_u, px_u, px_u, px_u] [] ph (px_qI r ph') := by
  unfold f_ObjectFile_isSymbolGood_53 at h
  refine px_ic (k := 0) rfl rfl rfl ?_
  cases h
  exact px_iret rfl (Or.inr ⟨rfl, Or.inl rfl⟩) rfl ⟨rfl, rfl⟩
def f_ObjectFile_isSymbolGood_33 (F : Nat) (c : px_CT) (a0 : Nat) (a1 : Int32) (a2 : Int32) (a3 : Int32) (s0 : Int32) (ph : px_H) : Option (Int32 × px_H) :=
  if (nI 2) < a2 then
    f_ObjectFile_isSymbolGood_53 F c ph
  else
    if s0 = 0 then
      (xgI ph 7 8 a0).bind fun t1 =>
      if a3 < t1 then
        f_ObjectFile_isSymbolGood_55 F c a0 a1 a2 a3 s0 ph
      else
        f_ObjectFile_isSymbolGood_53 F c ph
    else
      f_ObjectFile_isSymbolGood_55 F c a0 a1 a2 a3 s0 ph
theorem r_ObjectFile_isSymbolGood_33 {l : Launch} {g : px_G} {d F : Nat} {a0 : Nat} {a1 : Int32} {a2 : Int32} {a3 : Int32} {s0 : Int32} {ph : px_H} {r : Int32} {ph' : px_H} (h : f_ObjectFile_isSymbolGood_33 F (px_ct g) a0 a1 a2 a3 s0 ph = some (r, ph')) : PW l g (d + 3) m_ObjectFile_isSymbolGood 33 [.ref a0, .int a1, .int a2, .int a3, px_u] [.int s0] ph (px_qI r ph') := by
  unfold f_ObjectFile_isSymbolGood_33 at h
  refine px_st (lv' := [_, _, _, _, _]) rfl rfl rfl rfl rfl rfl rfl ?_
  refine px_ld rfl rfl rfl rfl rfl ?_
  refine px_ic (k := 2) rfl rfl rfl ?_
  refine px_icgt rfl (by decide) rfl (fun hc => ?_) (fun hc => ?_)
  · replace h := (if_pos hc).symm.trans h
    refine px_forget (n := 0) (lv' := [_, _, _, _, _]) rfl ?_
    refine px_forget (n := 1) (lv' := [_, _, _, _, _]) rfl ?_
    refine px_forget (n := 2) (lv' := [_, _, _, _, _]) rfl ?_
    refine px_forget (n := 3) (lv' := [_, _, _, _, _]) rfl ?_
    refine px_forget (n := 4) (lv' := [_, _, _, _, _]) rfl ?_
    exact (r_ObjectFile_isSymbolGood_53 h :)
  · replace h := (if_neg hc).symm.trans h
    refine px_ld rfl rfl rfl rfl rfl ?_
    refine px_ifne rfl (by decide) rfl (fun hc => ?_) (fun hc => ?_)
    · replace h := (if_neg hc).symm.trans h
      exact (r_ObjectFile_isSymbolGood_55 h :)
    · replace h := (if_pos hc).symm.trans h
      refine px_ld rfl rfl rfl rfl rfl ?_
      refine px_ld rfl rfl rfl rfl rfl ?_
      obtain ⟨t1, h0, h⟩ := xs_some h
      obtain ⟨fs, e1, e2⟩ := xgI_some h0
      refine px_get rfl e1 e2 rfl ?_
      refine px_iclt rfl (by decide) rfl (fun hc => ?_) (fun hc => ?_)
      · replace h := (if_pos hc).symm.trans h
        exact (r_ObjectFile_isSymbolGood_55 h :)
      · replace h := (if_neg hc).symm.trans h
        refine px_forget (n := 0) (lv' := [_, _, _, _, _]) rfl ?_
        refine px_forget (n := 1) (lv' := [_, _, _, _, _]) rfl ?_
        refine px_forget (n := 2) (lv' := [_, _, _, _, _]) rfl ?_
        refine px_forget (n := 3) (lv' := [_, _, _, _, _]) rfl ?_
        refine px_forget (n := 4) (lv' := [_, _, _, _, _]) rfl ?_
        exact (r_ObjectFile_isSymbolGood_53 h :)
def f_ObjectFile_isSymbolGood_28 (F : Nat) (c : px_CT) (a0 : Nat) (a1 : Int32) (a2 : Int32) (a3 : Int32) (ph : px_H) : Option (Int32 × px_H) :=
  f_ObjectFile_isSymbolGood_33 F c a0 a1 a2 a3 (nI 1) ph
theorem r_ObjectFile_isSymbolGood_28 {l : Launch} {g : px_G} {d F : Nat} {a0 : Nat} {a1 : Int32} {a2 : Int32} {a3 : Int32} {ph : px_H} {r : Int32} {ph' : px_H} (h : f_ObjectFile_isSymbolGood_28 F (px_ct g) a0 a1 a2 a3 ph = some (r, ph')) : PW l g (d + 3) m_ObjectFile_isSymbolGood 28 [.ref a0, .int a1, .int a2, .int a3, px_u] [] ph (px_qI r ph') := by
  unfold f_ObjectFile_isSymbolGood_28 at h
  refine px_ic (k := 1) rfl rfl rfl ?_
  refine px_goto rfl (by decide) rfl ?_
  exact (r_ObjectFile_isSymbolGood_33 h :)
def f_ObjectFile_isSymbolGood (F : Nat) (c : px_CT) (a0 : Nat) (a1 : Int32) (ph : px_H) : Option (Int32 × px_H) :=
  (xo ph 7 a0).bind fun _ =>
  xb (f_ObjectFile_bindOf F c a0 a1 ph) fun t1 ph2 =>
  (xo ph2 7 a0).bind fun _ =>
  xb (f_ObjectFile_whereOf F c a0 a1 ph2) fun t3 ph4 =>
  if t3 = 0 then
    f_ObjectFile_isSymbolGood_28 F c a0 a1 t1 t3 ph4
  else
    if t3 = ((65521 : Int32)) then
      f_ObjectFile_isSymbolGood_28 F c a0 a1 t1 t3 ph4
    else
      if t3 = ((65522 : Int32)) then
        f_ObjectFile_isSymbolGood_28 F c a0 a1 t1 t3 ph4
      else
        f_ObjectFile_isSymbolGood_33 F c a0 a1 t1 t3 (nI 0) ph4
theorem r_ObjectFile_isSymbolGood {l : Launch} {g : px_G} {d F : Nat} {a0 : Nat} {a1 : Int32} {ph : px_H} {r : Int32} {ph' : px_H} (h : f_ObjectFile_isSymbolGood F (px_ct g) a0 a1 ph = some (r, ph')) : PW l g (d + 3) m_ObjectFile_isSymbolGood 0 [.ref a0, .int a1, px_u, px_u, px_u] [] ph (px_qI r ph') := by
  unfold f_ObjectFile_isSymbolGood at h
  refine px_ld rfl rfl rfl rfl rfl ?_
  refine px_ld rfl rfl rfl rfl rfl ?_
  obtain ⟨fs, h0, h⟩ := xs_some h
  have e1 := xo_some h0
  obtain ⟨t1, ph2, h0, h⟩ := xb_some h
  refine px_cV1 rfl rfl e1 rfl rfl rfl rfl rfl rfl rfl (r_ObjectFile_bindOf h0 :) (fun _ _ q => nomatch q.2) (fun r ph' q => ?_)
  obtain ⟨rfl, q⟩ := q
  cases q
  refine px_st (lv' := [_, _, _, _, _]) rfl rfl rfl rfl rfl rfl rfl ?_
  refine px_ld rfl rfl rfl rfl rfl ?_
  refine px_ld rfl rfl rfl rfl rfl ?_
  obtain ⟨fs, h0, h⟩ := xs_some h
  have e1 := xo_some h0
  obtain ⟨t3, ph4, h0, h⟩ := xb_some h
  refine px_cV1 rfl rfl e1 rfl rfl rfl rfl rfl rfl rfl (r_ObjectFile_whereOf h0 :) (fun _ _ q => nomatch q.2) (fun r ph' q => ?_)
  obtain ⟨rfl, q⟩ := q
  cases q
  refine px_st (lv' := [_, _, _, _, _]) rfl rfl rfl rfl rfl rfl rfl ?_
  refine px_ld rfl rfl rfl rfl rfl ?_
  refine px_ifeq rfl (by decide) rfl (fun hc => ?_) (fun hc => ?_)
  · replace h := (if_pos hc).symm.trans h
    exact (r_ObjectFile_isSymbolGood_28 h :)
  · replace h := (if_neg hc).symm.trans h
    refine px_ld rfl rfl rfl rfl rfl ?_
    refine px_ldc rfl (by decide) rfl rfl ?_
    refine px_iceq rfl (by decide) rfl (fun hc => ?_) (fun hc => ?_)
    · replace h := (if_pos hc).symm.trans h
      exact (r_ObjectFile_isSymbolGood_28 h :)
    · replace h := (if_neg hc).symm.trans h
      refine px_ld rfl rfl rfl rfl rfl ?_
      refine px_ldc rfl (by decide) rfl rfl ?_
      refine px_icne rfl (by decide) rfl (fun hc => ?_) (fun hc => ?_)
      · replace h := (if_neg hc).symm.trans h
        refine px_ic (k := 0) rfl rfl rfl ?_
        exact (r_ObjectFile_isSymbolGood_33 h :)
      · replace h := (if_pos hc).symm.trans h
        exact (r_ObjectFile_isSymbolGood_28 h :)
def f_ObjectFile_isSiteGood_159 (F : Nat) (c : px_CT) (ph : px_H) : Option (Int32 × px_H) :=
  some (nI 1, ph)
theorem r_ObjectFile_isSiteGood_159 {l : Launch} {g : px_G} {d F : Nat} {ph : px_H} {r : Int32} {ph' : px_H} (h : f_ObjectFile_isSiteGood_159 F (px_ct g) ph = some (r, ph')) : PW l g (d + 2) m_ObjectFile_isSiteGood 159 [px_u, px_u, px_u, px_u, px_u, px_u, px_u, px_u, px_u, px_u, px_u] [] ph (px_qI r ph') := by
  unfold f_ObjectFile_isSiteGood_159 at h
  refine px_ic (k := 1) rfl rfl rfl ?_
  cases h
  exact px_iret rfl (Or.inr ⟨rfl, Or.inr rfl⟩) rfl ⟨rfl, rfl⟩
def f_ObjectFile_isSiteGood_141 (F : Nat) (c : px_CT) (ph : px_H) : Option (Int32 × px_H) :=
  some (nI 0, ph)
theorem r_ObjectFile_isSiteGood_141 {l : Launch} {g : px_G} {d F : Nat} {ph : px_H} {r : Int32} {ph' : px_H} (h : f_ObjectFile_isSiteGood_141 F (px_ct g) ph = some (r, ph')) : PW l g (d + 2) m_ObjectFile_isSiteGood 141 [px_u, px_u, px_u, px_u, px_u, px_u, px_u, px_u, px_u, px_u, px_u] [] ph (px_qI r ph') := by
  unfold f_ObjectFile_isSiteGood_141 at h
  refine px_ic (k := 0) rfl rfl rfl ?_
  cases h
  exact px_iret rfl (Or.inr ⟨rfl, Or.inl rfl⟩) rfl ⟨rfl, rfl⟩
def f_ObjectFile_isSiteGood_103 (F : Nat) (c : px_CT) : Nat → Int32 → Nat → Int32 → Int64 → Int32 → px_H → Option (Int32 × px_H)
  | 0, _, _, _, _, _, _ => none
  | n + 1, a2, a3, a4, a5, a9, ph =>
    if a4 ≤ a9 then
      f_ObjectFile_isSiteGood_159 F c ph
    else
      if (a5.toInt32 + a9) < 0 then
        f_ObjectFile_isSiteGood_141 F c ph
      else
        (xal ph 1 a3).bind fun t1 =>
        if t1 ≤ (a5.toInt32 + a9) then
          f_ObjectFile_isSiteGood_141 F c ph
        else
          (xaI ph 1 a3 (a5.toInt32 + a9)).bind fun t2 =>
          if ((t2 >>> (a2 &&& 31)) &&& (nI 1)) = 0 then
            (xaI ph 1 a3 (a5.toInt32 + a9)).bind fun t3 =>
            (xsI ph 1 a3 (a5.toInt32 + a9) (t3 ||| ((nI 1) <<< (a2 &&& 31)))).bind fun ph4 =>
            f_ObjectFile_isSiteGood_103 F c n a2 a3 a4 a5 (a9 + nI 1) ph4
          else
            f_ObjectFile_isSiteGood_141 F c ph
theorem r_ObjectFile_isSiteGood_103 {l : Launch} {g : px_G} {d F : Nat} : ∀ (n : Nat) {a2 : Int32} {a3 : Nat} {a4 : Int32} {a5 : Int64} {a9 : Int32} {ph : px_H} {r : Int32} {ph' : px_H}, f_ObjectFile_isSiteGood_103 F (px_ct g) n a2 a3 a4 a5 a9 ph = some (r, ph') → PW l g (d + 2) m_ObjectFile_isSiteGood 103 [px_u, px_u, .int a2, .ref a3, .int a4, .long a5, px_u, px_u, px_u, .int a9, px_u] [] ph (px_qI r ph') := by
  intro n
  induction n with
  | zero => intro _ _ _ _ _ _ _ _ h; cases h
  | succ n ih =>
    intro a2 a3 a4 a5 a9 ph r ph' h
    unfold f_ObjectFile_isSiteGood_103 at h
    refine px_ld rfl rfl rfl rfl rfl ?_
    refine px_ld rfl rfl rfl rfl rfl ?_
    refine px_icge rfl (by decide) rfl (fun hc => ?_) (fun hc => ?_)
    · replace h := (if_pos hc).symm.trans h
      refine px_forget (n := 2) (lv' := [_, _, _, _, _, _, _, _, _, _, _]) rfl ?_
      refine px_forget (n := 3) (lv' := [_, _, _, _, _, _, _, _, _, _, _]) rfl ?_
      refine px_forget (n := 4) (lv' := [_, _, _, _, _, _, _, _, _, _, _]) rfl ?_
      refine px_forget (n := 5) (lv' := [_, _, _, _, _, _, _, _, _, _, _]) rfl ?_
      refine px_forget (n := 9) (lv' := [_, _, _, _, _, _, _, _, _, _, _]) rfl ?_
      exact (r_ObjectFile_isSiteGood_159 h :)
    · replace h := (if_neg hc).symm.trans h
      refine px_ld rfl rfl rfl rfl rfl ?_
      refine px_alu rfl rfl rfl ?_
      refine px_ld rfl rfl rfl rfl rfl ?_
      refine px_alu rfl rfl rfl ?_
      refine px_st (lv' := [_, _, _, _, _, _, _, _, _, _, _]) rfl rfl rfl rfl rfl rfl rfl ?_
      refine px_ld rfl rfl rfl rfl rfl ?_
      refine px_iflt rfl (by decide) rfl (fun hc => ?_) (fun hc => ?_)
      · replace h := (if_pos hc).symm.trans h
        refine px_forget (n := 2) (lv' := [_, _, _, _, _, _, _, _, _, _, _]) rfl ?_
        refine px_forget (n := 3) (lv' := [_, _, _, _, _, _, _, _, _, _, _]) rfl ?_
        refine px_forget (n := 4) (lv' := [_, _, _, _, _, _, _, _, _, _, _]) rfl ?_
        refine px_forget (n := 5) (lv' := [_, _, _, _, _, _, _, _, _, _, _]) rfl ?_
        refine px_forget (n := 9) (lv' := [_, _, _, _, _, _, _, _, _, _, _]) rfl ?_
        refine px_forget (n := 10) (lv' := [_, _, _, _, _, _, _, _, _, _, _]) rfl ?_
        exact (r_ObjectFile_isSiteGood_141 h :)
      · replace h := (if_neg hc).symm.trans h
        refine px_ld rfl rfl rfl rfl rfl ?_
        refine px_ld rfl rfl rfl rfl rfl ?_
        obtain ⟨t1, h0, h⟩ := xs_some h
        obtain ⟨x, e1, e3⟩ := xal_some h0
        subst e3
        refine px_alen rfl e1 rfl rfl ?_
        refine px_icge rfl (by decide) rfl (fun hc => ?_) (fun hc => ?_)
        · replace h := (if_pos hc).symm.trans h
          refine px_forget (n := 2) (lv' := [_, _, _, _, _, _, _, _, _, _, _]) rfl ?_
          refine px_forget (n := 3) (lv' := [_, _, _, _, _, _, _, _, _, _, _]) rfl ?_
          refine px_forget (n := 4) (lv' := [_, _, _, _, _, _, _, _, _, _, _]) rfl ?_
          refine px_forget (n := 5) (lv' := [_, _, _, _, _, _, _, _, _, _, _]) rfl ?_
          refine px_forget (n := 9) (lv' := [_, _, _, _, _, _, _, _, _, _, _]) rfl ?_
          refine px_forget (n := 10) (lv' := [_, _, _, _, _, _, _, _, _, _, _]) rfl ?_
          exact (r_ObjectFile_isSiteGood_141 h :)
        · replace h := (if_neg hc).symm.trans h
          refine px_ld rfl rfl rfl rfl rfl ?_
          refine px_ld rfl rfl rfl rfl rfl ?_
          obtain ⟨t2, h0, h⟩ := xs_some h
          obtain ⟨N, f, e1, e2, e3⟩ := xaI_some h0
          subst e3
          refine px_iald rfl e1 rfl e2 rfl ?_
          refine px_ld rfl rfl rfl rfl rfl ?_
          refine px_alu rfl rfl rfl ?_
          refine px_ic (k := 1) rfl rfl rfl ?_
          refine px_alu rfl rfl rfl ?_
          refine px_ifeq rfl (by decide) rfl (fun hc => ?_) (fun hc => ?_)
          · replace h := (if_pos hc).symm.trans h
            refine px_ld rfl rfl rfl rfl rfl ?_
            refine px_ld rfl rfl rfl rfl rfl ?_
            refine px_alu rfl rfl rfl ?_
            obtain ⟨t3, h0, h⟩ := xs_some h
            obtain ⟨N, f, e1, e2, e3⟩ := xaI_some h0
            subst e3
            refine px_iald rfl e1 rfl e2 rfl ?_
            refine px_ic (k := 1) rfl rfl rfl ?_
            refine px_ld rfl rfl rfl rfl rfl ?_
            refine px_alu rfl rfl rfl ?_
            refine px_alu rfl rfl rfl ?_
            obtain ⟨ph4, h0, h⟩ := xs_some h
            obtain ⟨N, f, e1, e2, e3⟩ := xsI_some h0
            subst e3
            refine px_iast rfl e1 rfl e2 rfl ?_
            refine px_iinc (lv' := [_, _, _, _, _, _, _, _, _, _, _]) rfl rfl rfl rfl rfl rfl ?_
            refine px_goto rfl (by decide) rfl ?_
            refine px_forget (n := 10) (lv' := [_, _, _, _, _, _, _, _, _, _, _]) rfl ?_
            exact (ih h :)
          · replace h := (if_neg hc).symm.trans h
            refine px_forget (n := 2) (lv' := [_, _, _, _, _, _, _, _, _, _, _]) rfl ?_
            refine px_forget (n := 3) (lv' := [_, _, _, _, _, _, _, _, _, _, _]) rfl ?_
            refine px_forget (n := 4) (lv' := [_, _, _, _, _, _, _, _, _, _, _]) rfl ?_
            refine px_forget (n := 5) (lv' := [_, _, _, _, _, _, _, _, _, _, _]) rfl ?_
            refine px_forget (n := 9) (lv' := [_, _, _, _, _, _, _, _, _, _, _]) rfl ?_
            refine px_forget (n := 10) (lv' := [_, _, _, _, _, _, _, _, _, _, _]) rfl ?_
            exact (r_ObjectFile_isSiteGood_141 h :)
def f_ObjectFile_isSiteGood_98 (F : Nat) (c : px_CT) (ph : px_H) : Option (Int32 × px_H) :=
  some (nI 0, ph)
theorem r_ObjectFile_isSiteGood_98 {l : Launch} {g : px_G} {d F : Nat} {ph : px_H} {r : Int32} {ph' : px_H} (h : f_ObjectFile_isSiteGood_98 F (px_ct g) ph = some (r, ph')) : PW l g (d + 2) m_ObjectFile_isSiteGood 98 [px_u, px_u, px_u, px_u, px_u, px_u, px_u, px_u, px_u, px_u, px_u] [] ph (px_qI r ph') := by
  unfold f_ObjectFile_isSiteGood_98 at h
  refine px_ic (k := 0) rfl rfl rfl ?_
  cases h
  exact px_iret rfl (Or.inr ⟨rfl, Or.inl rfl⟩) rfl ⟨rfl, rfl⟩
def f_ObjectFile_isSiteGood_37 (F : Nat) (c : px_CT) (ph : px_H) : Option (Int32 × px_H) :=
  some (nI 0, ph)
theorem r_ObjectFile_isSiteGood_37 {l : Launch} {g : px_G} {d F : Nat} {ph : px_H} {r : Int32} {ph' : px_H} (h : f_ObjectFile_isSiteGood_37 F (px_ct g) ph = some (r, ph')) : PW l g (d + 2) m_ObjectFile_isSiteGood 37 [px_u, px_u, px_u, px_u, px_u, px_u, px_u, px_u, px_u, px_u, px_u] [] ph (px_qI r ph') := by
  unfold f_ObjectFile_isSiteGood_37 at h
  refine px_ic (k := 0) rfl rfl rfl ?_
  cases h
  exact px_iret rfl (Or.inr ⟨rfl, Or.inl rfl⟩) rfl ⟨rfl, rfl⟩
def f_ObjectFile_isSiteGood (F : Nat) (c : px_CT) (a0 : Nat) (a1 : Int32) (a2 : Int32) (a3 : Nat) (ph : px_H) : Option (Int32 × px_H) :=
  (xo ph 7 a0).bind fun _ =>
  xb (f_ObjectFile_num F c a0 (a1 + (nI 8)) (nI 4) ph) fun t1 ph2 =>
  xb (f_H_siteWidth F c t1 ph2) fun t3 ph4 =>
  if t3 < 0 then
    f_ObjectFile_isSiteGood_37 F c ph4
  else
    (xo ph4 7 a0).bind fun _ =>
    xb (f_ObjectFile_num F c a0 (a1 + (nI 12)) (nI 4) ph4) fun t5 ph6 =>
    (xgI ph6 7 11 a0).bind fun t7 =>
    if t5 < t7.toInt64 then
      if t3 = 0 then
        some (nI 1, ph6)
      else
        (xo ph6 7 a0).bind fun _ =>
        xb (f_ObjectFile_num F c a0 a1 (nI 8) ph6) fun t8 ph9 =>
        (xo ph9 7 a0).bind fun _ =>
        xb (f_ObjectFile_lengthOf F c a0 a2 ph9) fun t10 ph11 =>
        (xo ph11 7 a0).bind fun _ =>
        xb (f_ObjectFile_typeOf F c a0 a2 ph11) fun t12 ph13 =>
        if t12 = ((8 : Int64)) then
          f_ObjectFile_isSiteGood_98 F c ph13
        else
          xb (f_H_above F c t8 t10 ph13) fun t14 ph15 =>
          if t14 = 0 then
            xb (f_H_above F c t3.toInt64 (t10 - t8) ph15) fun t16 ph17 =>
            if t16 = 0 then
              f_ObjectFile_isSiteGood_103 F c F a2 a3 t3 t8 (nI 0) ph17
            else
              f_ObjectFile_isSiteGood_98 F c ph17
          else
            f_ObjectFile_isSiteGood_98 F c ph15
    else
      f_ObjectFile_isSiteGood_37 F c ph6
theorem r_ObjectFile_isSiteGood {l : Launch} {g : px_G} {d F : Nat} {a0 : Nat} {a1 : Int32} {a2 : Int32} {a3 : Nat} {ph : px_H} {r : Int32} {ph' : px_H} (h : f_ObjectFile_isSiteGood F (px_ct g) a0 a1 a2 a3 ph = some (r, ph')) : PW l g (d + 2) m_ObjectFile_isSiteGood 0 [.ref a0, .int a1, .int a2, .ref a3, px_u, px_u, px_u, px_u, px_u, px_u, px_u] [] ph (px_qI r ph') := by
  unfold f_ObjectFile_isSiteGood at h
  refine px_ld rfl rfl rfl rfl rfl ?_
  refine px_ld rfl rfl rfl rfl rfl ?_
  refine px_ic (k := 8) rfl rfl rfl ?_
  refine px_alu rfl rfl rfl ?_
  refine px_ic (k := 4) rfl rfl rfl ?_
  obtain ⟨fs, h0, h⟩ := xs_some h
  have e1 := xo_some h0
  obtain ⟨t1, ph2, h0, h⟩ := xb_some h
  refine px_cV2 rfl rfl e1 rfl rfl rfl rfl rfl rfl rfl (r_ObjectFile_num h0 :) (fun _ _ q => nomatch q.2) (fun r ph' q => ?_)
  obtain ⟨rfl, q⟩ := q
  cases q
  obtain ⟨t3, ph4, h0, h⟩ := xb_some h
  refine px_cS1 rfl rfl rfl rfl rfl rfl rfl (r_H_siteWidth h0 :) (fun _ _ q => nomatch q.2) (fun r ph' q => ?_)
  obtain ⟨rfl, q⟩ := q
  cases q
  refine px_st (lv' := [_, _, _, _, _, _, _, _, _, _, _]) rfl rfl rfl rfl rfl rfl rfl ?_
  refine px_ld rfl rfl rfl rfl rfl ?_
  refine px_iflt rfl (by decide) rfl (fun hc => ?_) (fun hc => ?_)
  · replace h := (if_pos hc).symm.trans h
    refine px_forget (n := 0) (lv' := [_, _, _, _, _, _, _, _, _, _, _]) rfl ?_
    refine px_forget (n := 1) (lv' := [_, _, _, _, _, _, _, _, _, _, _]) rfl ?_
    refine px_forget (n := 2) (lv' := [_, _, _, _, _, _, _, _, _, _, _]) rfl ?_
    refine px_forget (n := 3) (lv' := [_, _, _, _, _, _, _, _, _, _, _]) rfl ?_
    refine px_forget (n := 4) (lv' := [_, _, _, _, _, _, _, _, _, _, _]) rfl ?_
    exact (r_ObjectFile_isSiteGood_37 h :)
  · replace h := (if_neg hc).symm.trans h
    refine px_ld rfl rfl rfl rfl rfl ?_
    refine px_ld rfl rfl rfl rfl rfl ?_
    refine px_ic (k := 12) rfl rfl rfl ?_
    refine px_alu rfl rfl rfl ?_
    refine px_ic (k := 4) rfl rfl rfl ?_
    obtain ⟨fs, h0, h⟩ := xs_some h
    have e1 := xo_some h0
    obtain ⟨t5, ph6, h0, h⟩ := xb_some h
    refine px_cV2 rfl rfl e1 rfl rfl rfl rfl rfl rfl rfl (r_ObjectFile_num h0 :) (fun _ _ q => nomatch q.2) (fun r ph' q => ?_)
    obtain ⟨rfl, q⟩ := q
    cases q
    refine px_ld rfl rfl rfl rfl rfl ?_
    obtain ⟨t7, h0, h⟩ := xs_some h
    obtain ⟨fs, e1, e2⟩ := xgI_some h0
    refine px_get rfl e1 e2 rfl ?_
    refine px_alu rfl rfl rfl ?_
    refine px_alu rfl rfl rfl ?_
    refine px_iflt rfl (by decide) rfl (fun hc => ?_) (fun hc => ?_)
    · replace h := (if_pos ((lg_cmp_lt _ _).mp hc)).symm.trans h
      refine px_ld rfl rfl rfl rfl rfl ?_
      refine px_ifne rfl (by decide) rfl (fun hc => ?_) (fun hc => ?_)
      · replace h := (if_neg hc).symm.trans h
        refine px_ld rfl rfl rfl rfl rfl ?_
        refine px_ld rfl rfl rfl rfl rfl ?_
        refine px_ic (k := 8) rfl rfl rfl ?_
        obtain ⟨fs, h0, h⟩ := xs_some h
        have e1 := xo_some h0
        obtain ⟨t8, ph9, h0, h⟩ := xb_some h
        refine px_cV2 rfl rfl e1 rfl rfl rfl rfl rfl rfl rfl (r_ObjectFile_num h0 :) (fun _ _ q => nomatch q.2) (fun r ph' q => ?_)
        obtain ⟨rfl, q⟩ := q
        cases q
        refine px_st (lv' := [_, _, _, _, _, _, _, _, _, _, _]) rfl rfl rfl rfl rfl rfl rfl ?_
        refine px_ld rfl rfl rfl rfl rfl ?_
        refine px_ld rfl rfl rfl rfl rfl ?_
        obtain ⟨fs, h0, h⟩ := xs_some h
        have e1 := xo_some h0
        obtain ⟨t10, ph11, h0, h⟩ := xb_some h
        refine px_cV1 rfl rfl e1 rfl rfl rfl rfl rfl rfl rfl (r_ObjectFile_lengthOf h0 :) (fun _ _ q => nomatch q.2) (fun r ph' q => ?_)
        obtain ⟨rfl, q⟩ := q
        cases q
        refine px_st (lv' := [_, _, _, _, _, _, _, _, _, _, _]) rfl rfl rfl rfl rfl rfl rfl ?_
        refine px_ld rfl rfl rfl rfl rfl ?_
        refine px_ld rfl rfl rfl rfl rfl ?_
        obtain ⟨fs, h0, h⟩ := xs_some h
        have e1 := xo_some h0
        obtain ⟨t12, ph13, h0, h⟩ := xb_some h
        refine px_cV1 rfl rfl e1 rfl rfl rfl rfl rfl rfl rfl (r_ObjectFile_typeOf h0 :) (fun _ _ q => nomatch q.2) (fun r ph' q => ?_)
        obtain ⟨rfl, q⟩ := q
        cases q
        refine px_ldc2 rfl rfl rfl ?_
        refine px_alu rfl rfl rfl ?_
        refine px_ifeq rfl (by decide) rfl (fun hc => ?_) (fun hc => ?_)
        · replace h := (if_pos ((lg_cmp_eq _ _).mp hc)).symm.trans h
          refine px_forget (n := 0) (lv' := [_, _, _, _, _, _, _, _, _, _, _]) rfl ?_
          refine px_forget (n := 1) (lv' := [_, _, _, _, _, _, _, _, _, _, _]) rfl ?_
          refine px_forget (n := 2) (lv' := [_, _, _, _, _, _, _, _, _, _, _]) rfl ?_
          refine px_forget (n := 3) (lv' := [_, _, _, _, _, _, _, _, _, _, _]) rfl ?_
          refine px_forget (n := 4) (lv' := [_, _, _, _, _, _, _, _, _, _, _]) rfl ?_
          refine px_forget (n := 5) (lv' := [_, _, _, _, _, _, _, _, _, _, _]) rfl ?_
          refine px_forget (n := 7) (lv' := [_, _, _, _, _, _, _, _, _, _, _]) rfl ?_
          exact (r_ObjectFile_isSiteGood_98 h :)
        · replace h := (if_neg (fun q => hc ((lg_cmp_eq _ _).mpr q))).symm.trans h
          refine px_ld rfl rfl rfl rfl rfl ?_
          refine px_ld rfl rfl rfl rfl rfl ?_
          obtain ⟨t14, ph15, h0, h⟩ := xb_some h
          refine px_cS2 rfl rfl rfl rfl rfl rfl rfl (r_H_above h0 :) (fun _ _ q => nomatch q.2) (fun r ph' q => ?_)
          obtain ⟨rfl, q⟩ := q
          cases q
          refine px_ifne rfl (by decide) rfl (fun hc => ?_) (fun hc => ?_)
          · replace h := (if_neg hc).symm.trans h
            refine px_forget (n := 0) (lv' := [_, _, _, _, _, _, _, _, _, _, _]) rfl ?_
            refine px_forget (n := 1) (lv' := [_, _, _, _, _, _, _, _, _, _, _]) rfl ?_
            refine px_forget (n := 2) (lv' := [_, _, _, _, _, _, _, _, _, _, _]) rfl ?_
            refine px_forget (n := 3) (lv' := [_, _, _, _, _, _, _, _, _, _, _]) rfl ?_
            refine px_forget (n := 4) (lv' := [_, _, _, _, _, _, _, _, _, _, _]) rfl ?_
            refine px_forget (n := 5) (lv' := [_, _, _, _, _, _, _, _, _, _, _]) rfl ?_
            refine px_forget (n := 7) (lv' := [_, _, _, _, _, _, _, _, _, _, _]) rfl ?_
            exact (r_ObjectFile_isSiteGood_98 h :)
          · replace h := (if_pos hc).symm.trans h
            refine px_ld rfl rfl rfl rfl rfl ?_
            refine px_alu rfl rfl rfl ?_
            refine px_ld rfl rfl rfl rfl rfl ?_
            refine px_ld rfl rfl rfl rfl rfl ?_
            refine px_alu rfl rfl rfl ?_
            obtain ⟨t16, ph17, h0, h⟩ := xb_some h
            refine px_cS2 rfl rfl rfl rfl rfl rfl rfl (r_H_above h0 :) (fun _ _ q => nomatch q.2) (fun r ph' q => ?_)
            obtain ⟨rfl, q⟩ := q
            cases q
            refine px_ifeq rfl (by decide) rfl (fun hc => ?_) (fun hc => ?_)
            · replace h := (if_pos hc).symm.trans h
              refine px_ic (k := 0) rfl rfl rfl ?_
              refine px_st (lv' := [_, _, _, _, _, _, _, _, _, _, _]) rfl rfl rfl rfl rfl rfl rfl ?_
              refine px_forget (n := 0) (lv' := [_, _, _, _, _, _, _, _, _, _, _]) rfl ?_
              refine px_forget (n := 1) (lv' := [_, _, _, _, _, _, _, _, _, _, _]) rfl ?_
              refine px_forget (n := 7) (lv' := [_, _, _, _, _, _, _, _, _, _, _]) rfl ?_
              exact (r_ObjectFile_isSiteGood_103 _ h :)
            · replace h := (if_neg hc).symm.trans h
              refine px_forget (n := 0) (lv' := [_, _, _, _, _, _, _, _, _, _, _]) rfl ?_
              refine px_forget (n := 1) (lv' := [_, _, _, _, _, _, _, _, _, _, _]) rfl ?_
              refine px_forget (n := 2) (lv' := [_, _, _, _, _, _, _, _, _, _, _]) rfl ?_
              refine px_forget (n := 3) (lv' := [_, _, _, _, _, _, _, _, _, _, _]) rfl ?_
              refine px_forget (n := 4) (lv' := [_, _, _, _, _, _, _, _, _, _, _]) rfl ?_
              refine px_forget (n := 5) (lv' := [_, _, _, _, _, _, _, _, _, _, _]) rfl ?_
              refine px_forget (n := 7) (lv' := [_, _, _, _, _, _, _, _, _, _, _]) rfl ?_
              exact (r_ObjectFile_isSiteGood_98 h :)
      · replace h := (if_pos hc).symm.trans h
        refine px_ic (k := 1) rfl rfl rfl ?_
        cases h
        exact px_iret rfl (Or.inr ⟨rfl, Or.inr rfl⟩) rfl ⟨rfl, rfl⟩
    · replace h := (if_neg (fun q => hc ((lg_cmp_lt _ _).mpr q))).symm.trans h
      refine px_forget (n := 0) (lv' := [_, _, _, _, _, _, _, _, _, _, _]) rfl ?_
      refine px_forget (n := 1) (lv' := [_, _, _, _, _, _, _, _, _, _, _]) rfl ?_
      refine px_forget (n := 2) (lv' := [_, _, _, _, _, _, _, _, _, _, _]) rfl ?_
      refine px_forget (n := 3) (lv' := [_, _, _, _, _, _, _, _, _, _, _]) rfl ?_
      refine px_forget (n := 4) (lv' := [_, _, _, _, _, _, _, _, _, _, _]) rfl ?_
      exact (r_ObjectFile_isSiteGood_37 h :)
def f_ObjectFile_areSitesGood_128 (F : Nat) (c : px_CT) (ph : px_H) : Option (Int32 × px_H) :=
  some (nI 1, ph)
theorem r_ObjectFile_areSitesGood_128 {l : Launch} {g : px_G} {d F : Nat} {ph : px_H} {r : Int32} {ph' : px_H} (h : f_ObjectFile_areSitesGood_128 F (px_ct g) ph = some (r, ph')) : PW l g (d + 3) m_ObjectFile_areSitesGood 128 [px_u, px_u, px_u, px_u, px_u, px_u, px_u] [] ph (px_qI r ph') := by
  unfold f_ObjectFile_areSitesGood_128 at h
  refine px_ic (k := 1) rfl rfl rfl ?_
  cases h
  exact px_iret rfl (Or.inr ⟨rfl, Or.inr rfl⟩) rfl ⟨rfl, rfl⟩
def f_ObjectFile_areSitesGood_122 (F : Nat) (c : px_CT) (k21 : Nat → Nat → Int32 → px_H → Option (Int32 × px_H)) (a0 : Nat) (a1 : Nat) (a2 : Int32) (ph : px_H) : Option (Int32 × px_H) :=
  k21 a0 a1 (a2 + nI 1) ph
theorem r_ObjectFile_areSitesGood_122 {l : Launch} {g : px_G} {d F : Nat} {k21 : Nat → Nat → Int32 → px_H → Option (Int32 × px_H)} (hk21 : ∀ {a0 : Nat} {a1 : Nat} {a2 : Int32} {ph : px_H} {r : Int32} {ph' : px_H}, k21 a0 a1 a2 ph = some (r, ph') → PW l g (d + 3) m_ObjectFile_areSitesGood 21 [.ref a0, .ref a1, .int a2, px_u, px_u, px_u, px_u] [] ph (px_qI r ph')) {a0 : Nat} {a1 : Nat} {a2 : Int32} {ph : px_H} {r : Int32} {ph' : px_H} (h : f_ObjectFile_areSitesGood_122 F (px_ct g) k21 a0 a1 a2 ph = some (r, ph')) : PW l g (d + 3) m_ObjectFile_areSitesGood 122 [.ref a0, .ref a1, .int a2, px_u, px_u, px_u, px_u] [] ph (px_qI r ph') := by
  unfold f_ObjectFile_areSitesGood_122 at h
  refine px_iinc (lv' := [_, _, _, _, _, _, _]) rfl rfl rfl rfl rfl rfl ?_
  refine px_goto rfl (by decide) rfl ?_
  exact (hk21 h :)
def f_ObjectFile_areSitesGood_114 (F : Nat) (c : px_CT) (ph : px_H) : Option (Int32 × px_H) :=
  some (nI 0, ph)
theorem r_ObjectFile_areSitesGood_114 {l : Launch} {g : px_G} {d F : Nat} {ph : px_H} {r : Int32} {ph' : px_H} (h : f_ObjectFile_areSitesGood_114 F (px_ct g) ph = some (r, ph')) : PW l g (d + 3) m_ObjectFile_areSitesGood 114 [px_u, px_u, px_u, px_u, px_u, px_u, px_u] [] ph (px_qI r ph') := by
  unfold f_ObjectFile_areSitesGood_114 at h
  refine px_ic (k := 0) rfl rfl rfl ?_
  cases h
  exact px_iret rfl (Or.inr ⟨rfl, Or.inl rfl⟩) rfl ⟨rfl, rfl⟩
def f_ObjectFile_areSitesGood_90 (F : Nat) (c : px_CT) (k21 : Nat → Nat → Int32 → px_H → Option (Int32 × px_H)) : Nat → Nat → Nat → Int32 → Int32 → Int32 → Int32 → Int32 → px_H → Option (Int32 × px_H)
  | 0, _, _, _, _, _, _, _, _ => none
  | n + 1, a0, a1, a2, a3, a4, a5, a6, ph =>
    if a4 ≤ a6 then
      f_ObjectFile_areSitesGood_122 F c k21 a0 a1 a2 ph
    else
      (xo ph 7 a0).bind fun _ =>
      xb (f_ObjectFile_isSiteGood F c a0 (a5 + ((nI 24) * a6)) a3 a1 ph) fun t1 ph2 =>
      if t1 = 0 then
        f_ObjectFile_areSitesGood_114 F c ph2
      else
        f_ObjectFile_areSitesGood_90 F c k21 n a0 a1 a2 a3 a4 a5 (a6 + nI 1) ph2
theorem r_ObjectFile_areSitesGood_90 {l : Launch} {g : px_G} {d F : Nat} {k21 : Nat → Nat → Int32 → px_H → Option (Int32 × px_H)} (hk21 : ∀ {a0 : Nat} {a1 : Nat} {a2 : Int32} {ph : px_H} {r : Int32} {ph' : px_H}, k21 a0 a1 a2 ph = some (r, ph') → PW l g (d + 3) m_ObjectFile_areSitesGood 21 [.ref a0, .ref a1, .int a2, px_u, px_u, px_u, px_u] [] ph (px_qI r ph')) : ∀ (n : Nat) {a0 : Nat} {a1 : Nat} {a2 : Int32} {a3 : Int32} {a4 : Int32} {a5 : Int32} {a6 : Int32} {ph : px_H} {r : Int32} {ph' : px_H}, f_ObjectFile_areSitesGood_90 F (px_ct g) k21 n a0 a1 a2 a3 a4 a5 a6 ph = some (r, ph') → PW l g (d + 3) m_ObjectFile_areSitesGood 90 [.ref a0, .ref a1, .int a2, .int a3, .int a4, .int a5, .int a6] [] ph (px_qI r ph') := by
  intro n
  induction n with
  | zero => intro _ _ _ _ _ _ _ _ _ _ h; cases h
  | succ n ih =>
    intro a0 a1 a2 a3 a4 a5 a6 ph r ph' h
    unfold f_ObjectFile_areSitesGood_90 at h
    refine px_ld rfl rfl rfl rfl rfl ?_
    refine px_ld rfl rfl rfl rfl rfl ?_
    refine px_icge rfl (by decide) rfl (fun hc => ?_) (fun hc => ?_)
    · replace h := (if_pos hc).symm.trans h
      refine px_forget (n := 3) (lv' := [_, _, _, _, _, _, _]) rfl ?_
      refine px_forget (n := 4) (lv' := [_, _, _, _, _, _, _]) rfl ?_
      refine px_forget (n := 5) (lv' := [_, _, _, _, _, _, _]) rfl ?_
      refine px_forget (n := 6) (lv' := [_, _, _, _, _, _, _]) rfl ?_
      exact (r_ObjectFile_areSitesGood_122 @hk21 h :)
    · replace h := (if_neg hc).symm.trans h
      refine px_ld rfl rfl rfl rfl rfl ?_
      refine px_ld rfl rfl rfl rfl rfl ?_
      refine px_ic (k := 24) rfl rfl rfl ?_
      refine px_ld rfl rfl rfl rfl rfl ?_
      refine px_alu rfl rfl rfl ?_
      refine px_alu rfl rfl rfl ?_
      refine px_ld rfl rfl rfl rfl rfl ?_
      refine px_ld rfl rfl rfl rfl rfl ?_
      obtain ⟨fs, h0, h⟩ := xs_some h
      have e1 := xo_some h0
      obtain ⟨t1, ph2, h0, h⟩ := xb_some h
      refine px_cV3 rfl rfl e1 rfl rfl rfl rfl rfl rfl rfl (r_ObjectFile_isSiteGood h0 :) (fun _ _ q => nomatch q.2) (fun r ph' q => ?_)
      obtain ⟨rfl, q⟩ := q
      cases q
      refine px_ifne rfl (by decide) rfl (fun hc => ?_) (fun hc => ?_)
      · replace h := (if_neg hc).symm.trans h
        refine px_iinc (lv' := [_, _, _, _, _, _, _]) rfl rfl rfl rfl rfl rfl ?_
        refine px_goto rfl (by decide) rfl ?_
        exact (ih h :)
      · replace h := (if_pos hc).symm.trans h
        refine px_forget (n := 0) (lv' := [_, _, _, _, _, _, _]) rfl ?_
        refine px_forget (n := 1) (lv' := [_, _, _, _, _, _, _]) rfl ?_
        refine px_forget (n := 2) (lv' := [_, _, _, _, _, _, _]) rfl ?_
        refine px_forget (n := 3) (lv' := [_, _, _, _, _, _, _]) rfl ?_
        refine px_forget (n := 4) (lv' := [_, _, _, _, _, _, _]) rfl ?_
        refine px_forget (n := 5) (lv' := [_, _, _, _, _, _, _]) rfl ?_
        refine px_forget (n := 6) (lv' := [_, _, _, _, _, _, _]) rfl ?_
        exact (r_ObjectFile_areSitesGood_114 h :)
def f_ObjectFile_areSitesGood_70 (F : Nat) (c : px_CT) (ph : px_H) : Option (Int32 × px_H) :=
  some (nI 0, ph)
theorem r_ObjectFile_areSitesGood_70 {l : Launch} {g : px_G} {d F : Nat} {ph : px_H} {r : Int32} {ph' : px_H} (h : f_ObjectFile_areSitesGood_70 F (px_ct g) ph = some (r, ph')) : PW l g (d + 3) m_ObjectFile_areSitesGood 70 [px_u, px_u, px_u, px_u, px_u, px_u, px_u] [] ph (px_qI r ph') := by
  unfold f_ObjectFile_areSitesGood_70 at h
  refine px_ic (k := 0) rfl rfl rfl ?_
  cases h
  exact px_iret rfl (Or.inr ⟨rfl, Or.inl rfl⟩) rfl ⟨rfl, rfl⟩
def f_ObjectFile_areSitesGood_21 (F : Nat) (c : px_CT) : Nat → Nat → Nat → Int32 → px_H → Option (Int32 × px_H)
  | 0, _, _, _, _ => none
  | n + 1, a0, a1, a2, ph =>
    (xgI ph 7 8 a0).bind fun t1 =>
    if t1 ≤ a2 then
      f_ObjectFile_areSitesGood_128 F c ph
    else
      (xo ph 7 a0).bind fun _ =>
      xb (f_ObjectFile_targetOf F c a0 a2 ph) fun t2 ph3 =>
      if 0 ≤ t2 then
        (xo ph3 7 a0).bind fun _ =>
        xb (f_ObjectFile_lengthOf F c a0 a2 ph3) fun t4 ph5 =>
        if (t4 - t4 / ((24 : Int64)) * ((24 : Int64))) = (lN 0) then
          (xo ph5 7 a0).bind fun _ =>
          xb (f_ObjectFile_linkOf F c a0 a2 ph5) fun t6 ph7 =>
          (xgI ph7 7 9 a0).bind fun t8 =>
          if t6 = t8.toInt64 then
            (xo ph7 7 a0).bind fun _ =>
            xb (f_ObjectFile_sitesOf F c a0 a2 ph7) fun t9 ph10 =>
            (xo ph10 7 a0).bind fun _ =>
            xb (f_ObjectFile_placeOf F c a0 a2 ph10) fun t11 ph12 =>
            f_ObjectFile_areSitesGood_90 F c (f_ObjectFile_areSitesGood_21 F c n) F a0 a1 a2 t2 t9 t11.toInt32 (nI 0) ph12
          else
            f_ObjectFile_areSitesGood_70 F c ph7
        else
          f_ObjectFile_areSitesGood_70 F c ph5
      else
        f_ObjectFile_areSitesGood_122 F c (f_ObjectFile_areSitesGood_21 F c n) a0 a1 a2 ph3
theorem r_ObjectFile_areSitesGood_21 {l : Launch} {g : px_G} {d F : Nat} : ∀ (n : Nat) {a0 : Nat} {a1 : Nat} {a2 : Int32} {ph : px_H} {r : Int32} {ph' : px_H}, f_ObjectFile_areSitesGood_21 F (px_ct g) n a0 a1 a2 ph = some (r, ph') → PW l g (d + 3) m_ObjectFile_areSitesGood 21 [.ref a0, .ref a1, .int a2, px_u, px_u, px_u, px_u] [] ph (px_qI r ph') := by
  intro n
  induction n with
  | zero => intro _ _ _ _ _ _ h; cases h
  | succ n ih =>
    intro a0 a1 a2 ph r ph' h
    unfold f_ObjectFile_areSitesGood_21 at h
    refine px_ld rfl rfl rfl rfl rfl ?_
    refine px_ld rfl rfl rfl rfl rfl ?_
    obtain ⟨t1, h0, h⟩ := xs_some h
    obtain ⟨fs, e1, e2⟩ := xgI_some h0
    refine px_get rfl e1 e2 rfl ?_
    refine px_icge rfl (by decide) rfl (fun hc => ?_) (fun hc => ?_)
    · replace h := (if_pos hc).symm.trans h
      refine px_forget (n := 0) (lv' := [_, _, _, _, _, _, _]) rfl ?_
      refine px_forget (n := 1) (lv' := [_, _, _, _, _, _, _]) rfl ?_
      refine px_forget (n := 2) (lv' := [_, _, _, _, _, _, _]) rfl ?_
      exact (r_ObjectFile_areSitesGood_128 h :)
    · replace h := (if_neg hc).symm.trans h
      refine px_ld rfl rfl rfl rfl rfl ?_
      refine px_ld rfl rfl rfl rfl rfl ?_
      obtain ⟨fs, h0, h⟩ := xs_some h
      have e1 := xo_some h0
      obtain ⟨t2, ph3, h0, h⟩ := xb_some h
      refine px_cV1 rfl rfl e1 rfl rfl rfl rfl rfl rfl rfl (r_ObjectFile_targetOf h0 :) (fun _ _ q => nomatch q.2) (fun r ph' q => ?_)
      obtain ⟨rfl, q⟩ := q
      cases q
      refine px_st (lv' := [_, _, _, _, _, _, _]) rfl rfl rfl rfl rfl rfl rfl ?_
      refine px_ld rfl rfl rfl rfl rfl ?_
      refine px_ifge rfl (by decide) rfl (fun hc => ?_) (fun hc => ?_)
      · replace h := (if_pos hc).symm.trans h
        refine px_ld rfl rfl rfl rfl rfl ?_
        refine px_ld rfl rfl rfl rfl rfl ?_
        obtain ⟨fs, h0, h⟩ := xs_some h
        have e1 := xo_some h0
        obtain ⟨t4, ph5, h0, h⟩ := xb_some h
        refine px_cV1 rfl rfl e1 rfl rfl rfl rfl rfl rfl rfl (r_ObjectFile_lengthOf h0 :) (fun _ _ q => nomatch q.2) (fun r ph' q => ?_)
        obtain ⟨rfl, q⟩ := q
        cases q
        refine px_ldc2 rfl rfl rfl ?_
        refine px_lrem rfl (by decide) rfl ?_
        refine px_alu rfl rfl rfl ?_
        refine px_alu rfl rfl rfl ?_
        refine px_ifne rfl (by decide) rfl (fun hc => ?_) (fun hc => ?_)
        · replace h := (if_neg (fun q => hc ((lg_cmp_eq _ _).mpr q))).symm.trans h
          refine px_forget (n := 0) (lv' := [_, _, _, _, _, _, _]) rfl ?_
          refine px_forget (n := 1) (lv' := [_, _, _, _, _, _, _]) rfl ?_
          refine px_forget (n := 2) (lv' := [_, _, _, _, _, _, _]) rfl ?_
          refine px_forget (n := 3) (lv' := [_, _, _, _, _, _, _]) rfl ?_
          exact (r_ObjectFile_areSitesGood_70 h :)
        · replace h := (if_pos ((lg_cmp_eq _ _).mp hc)).symm.trans h
          refine px_ld rfl rfl rfl rfl rfl ?_
          refine px_ld rfl rfl rfl rfl rfl ?_
          obtain ⟨fs, h0, h⟩ := xs_some h
          have e1 := xo_some h0
          obtain ⟨t6, ph7, h0, h⟩ := xb_some h
          refine px_cV1 rfl rfl e1 rfl rfl rfl rfl rfl rfl rfl (r_ObjectFile_linkOf h0 :) (fun _ _ q => nomatch q.2) (fun r ph' q => ?_)
          obtain ⟨rfl, q⟩ := q
          cases q
          refine px_ld rfl rfl rfl rfl rfl ?_
          obtain ⟨t8, h0, h⟩ := xs_some h
          obtain ⟨fs, e1, e2⟩ := xgI_some h0
          refine px_get rfl e1 e2 rfl ?_
          refine px_alu rfl rfl rfl ?_
          refine px_alu rfl rfl rfl ?_
          refine px_ifeq rfl (by decide) rfl (fun hc => ?_) (fun hc => ?_)
          · replace h := (if_pos ((lg_cmp_eq _ _).mp hc)).symm.trans h
            refine px_ld rfl rfl rfl rfl rfl ?_
            refine px_ld rfl rfl rfl rfl rfl ?_
            obtain ⟨fs, h0, h⟩ := xs_some h
            have e1 := xo_some h0
            obtain ⟨t9, ph10, h0, h⟩ := xb_some h
            refine px_cV1 rfl rfl e1 rfl rfl rfl rfl rfl rfl rfl (r_ObjectFile_sitesOf h0 :) (fun _ _ q => nomatch q.2) (fun r ph' q => ?_)
            obtain ⟨rfl, q⟩ := q
            cases q
            refine px_st (lv' := [_, _, _, _, _, _, _]) rfl rfl rfl rfl rfl rfl rfl ?_
            refine px_ld rfl rfl rfl rfl rfl ?_
            refine px_ld rfl rfl rfl rfl rfl ?_
            obtain ⟨fs, h0, h⟩ := xs_some h
            have e1 := xo_some h0
            obtain ⟨t11, ph12, h0, h⟩ := xb_some h
            refine px_cV1 rfl rfl e1 rfl rfl rfl rfl rfl rfl rfl (r_ObjectFile_placeOf h0 :) (fun _ _ q => nomatch q.2) (fun r ph' q => ?_)
            obtain ⟨rfl, q⟩ := q
            cases q
            refine px_alu rfl rfl rfl ?_
            refine px_st (lv' := [_, _, _, _, _, _, _]) rfl rfl rfl rfl rfl rfl rfl ?_
            refine px_ic (k := 0) rfl rfl rfl ?_
            refine px_st (lv' := [_, _, _, _, _, _, _]) rfl rfl rfl rfl rfl rfl rfl ?_
            exact (r_ObjectFile_areSitesGood_90 @ih _ h :)
          · replace h := (if_neg (fun q => hc ((lg_cmp_eq _ _).mpr q))).symm.trans h
            refine px_forget (n := 0) (lv' := [_, _, _, _, _, _, _]) rfl ?_
            refine px_forget (n := 1) (lv' := [_, _, _, _, _, _, _]) rfl ?_
            refine px_forget (n := 2) (lv' := [_, _, _, _, _, _, _]) rfl ?_
            refine px_forget (n := 3) (lv' := [_, _, _, _, _, _, _]) rfl ?_
            exact (r_ObjectFile_areSitesGood_70 h :)
      · replace h := (if_neg hc).symm.trans h
        refine px_goto rfl (by decide) rfl ?_
        refine px_forget (n := 3) (lv' := [_, _, _, _, _, _, _]) rfl ?_
        exact (r_ObjectFile_areSitesGood_122 @ih h :)
def f_ObjectFile_areSitesGood (F : Nat) (c : px_CT) (a0 : Nat) (a1 : Nat) (ph : px_H) : Option (Int32 × px_H) :=
  (xgI ph 7 6 a0).bind fun t1 =>
  (xal ph 1 a1).bind fun t2 =>
  xb (f_Arrays_fill F c a1 (nI 0) (if t2 < (if t1 < (nI 0) then (nI 0) else t1) then t2 else (if t1 < (nI 0) then (nI 0) else t1)) (nI 0) ph) fun _ ph3 =>
  f_ObjectFile_areSitesGood_21 F c F a0 a1 (nI 0) ph3
theorem r_ObjectFile_areSitesGood {l : Launch} {g : px_G} {d F : Nat} {a0 : Nat} {a1 : Nat} {ph : px_H} {r : Int32} {ph' : px_H} (h : f_ObjectFile_areSitesGood F (px_ct g) a0 a1 ph = some (r, ph')) : PW l g (d + 3) m_ObjectFile_areSitesGood 0 [.ref a0, .ref a1, px_u, px_u, px_u, px_u, px_u] [] ph (px_qI r ph') := by
  unfold f_ObjectFile_areSitesGood at h
  refine px_ld rfl rfl rfl rfl rfl ?_
  refine px_ic (k := 0) rfl rfl rfl ?_
  refine px_ld rfl rfl rfl rfl rfl ?_
  obtain ⟨t1, h0, h⟩ := xs_some h
  obtain ⟨fs, e1, e2⟩ := xgI_some h0
  refine px_get rfl e1 e2 rfl ?_
  refine px_ic (k := 0) rfl rfl rfl ?_
  refine px_max rfl rfl rfl ?_
  refine px_ld rfl rfl rfl rfl rfl ?_
  obtain ⟨t2, h0, h⟩ := xs_some h
  obtain ⟨x, e1, e3⟩ := xal_some h0
  subst e3
  refine px_alen rfl e1 rfl rfl ?_
  refine px_min rfl rfl rfl ?_
  refine px_ic (k := 0) rfl rfl rfl ?_
  obtain ⟨u0, ph3, h0, h⟩ := xb_some h
  refine px_cS4 rfl rfl rfl rfl rfl rfl rfl (r_Arrays_fill h0 :) (fun _ _ q => nomatch q.2) (fun r ph' q => ?_)
  obtain ⟨rfl, q⟩ := q
  cases q
  refine px_ic (k := 0) rfl rfl rfl ?_
  refine px_st (lv' := [_, _, _, _, _, _, _]) rfl rfl rfl rfl rfl rfl rfl ?_
  exact (r_ObjectFile_areSitesGood_21 _ h :)
def f_ObjectFile_areGroupsGood_186 (F : Nat) (c : px_CT) (ph : px_H) : Option (Int32 × px_H) :=
  some (nI 1, ph)
theorem r_ObjectFile_areGroupsGood_186 {l : Launch} {g : px_G} {d F : Nat} {ph : px_H} {r : Int32} {ph' : px_H} (h : f_ObjectFile_areGroupsGood_186 F (px_ct g) ph = some (r, ph')) : PW l g (d + 2) m_ObjectFile_areGroupsGood 186 [px_u, px_u, px_u, px_u, px_u, px_u, px_u, px_u, px_u, px_u, px_u] [] ph (px_qI r ph') := by
  unfold f_ObjectFile_areGroupsGood_186 at h
  refine px_ic (k := 1) rfl rfl rfl ?_
  cases h
  exact px_iret rfl (Or.inr ⟨rfl, Or.inr rfl⟩) rfl ⟨rfl, rfl⟩
def f_ObjectFile_areGroupsGood_180 (F : Nat) (c : px_CT) (k4 : Nat → Int32 → Int32 → px_H → Option (Int32 × px_H)) (a0 : Nat) (a1 : Int32) (a2 : Int32) (ph : px_H) : Option (Int32 × px_H) :=
  k4 a0 a1 (a2 + nI 1) ph
theorem r_ObjectFile_areGroupsGood_180 {l : Launch} {g : px_G} {d F : Nat} {k4 : Nat → Int32 → Int32 → px_H → Option (Int32 × px_H)} (hk4 : ∀ {a0 : Nat} {a1 : Int32} {a2 : Int32} {ph : px_H} {r : Int32} {ph' : px_H}, k4 a0 a1 a2 ph = some (r, ph') → PW l g (d + 2) m_ObjectFile_areGroupsGood 4 [.ref a0, .int a1, .int a2, px_u, px_u, px_u, px_u, px_u, px_u, px_u, px_u] [] ph (px_qI r ph')) {a0 : Nat} {a1 : Int32} {a2 : Int32} {ph : px_H} {r : Int32} {ph' : px_H} (h : f_ObjectFile_areGroupsGood_180 F (px_ct g) k4 a0 a1 a2 ph = some (r, ph')) : PW l g (d + 2) m_ObjectFile_areGroupsGood 180 [.ref a0, .int a1, .int a2, px_u, px_u, px_u, px_u, px_u, px_u, px_u, px_u] [] ph (px_qI r ph') := by
  unfold f_ObjectFile_areGroupsGood_180 at h
  refine px_iinc (lv' := [_, _, _, _, _, _, _, _, _, _, _]) rfl rfl rfl rfl rfl rfl ?_
  refine px_goto rfl (by decide) rfl ?_
  exact (hk4 h :)
def f_ObjectFile_areGroupsGood_164 (F : Nat) (c : px_CT) (ph : px_H) : Option (Int32 × px_H) :=
  some (nI 0, ph)
theorem r_ObjectFile_areGroupsGood_164 {l : Launch} {g : px_G} {d F : Nat} {ph : px_H} {r : Int32} {ph' : px_H} (h : f_ObjectFile_areGroupsGood_164 F (px_ct g) ph = some (r, ph')) : PW l g (d + 2) m_ObjectFile_areGroupsGood 164 [px_u, px_u, px_u, px_u, px_u, px_u, px_u, px_u, px_u, px_u, px_u] [] ph (px_qI r ph') := by
  unfold f_ObjectFile_areGroupsGood_164 at h
  refine px_ic (k := 0) rfl rfl rfl ?_
  cases h
  exact px_iret rfl (Or.inr ⟨rfl, Or.inl rfl⟩) rfl ⟨rfl, rfl⟩
def f_ObjectFile_areGroupsGood_116 (F : Nat) (c : px_CT) (k4 : Nat → Int32 → Int32 → px_H → Option (Int32 × px_H)) : Nat → Nat → Int32 → Int32 → Int64 → Int32 → Int32 → px_H → Option (Int32 × px_H)
  | 0, _, _, _, _, _, _, _ => none
  | n + 1, a0, a1, a2, a3, a7, a8, ph =>
    if a3 ≤ a8.toInt64 then
      f_ObjectFile_areGroupsGood_180 F c k4 a0 a1 a2 ph
    else
      (xo ph 7 a0).bind fun _ =>
      xb (f_ObjectFile_num F c a0 (a7 + a8) (nI 4) ph) fun t1 ph2 =>
      if t1 < (lN 1) then
        f_ObjectFile_areGroupsGood_164 F c ph2
      else
        (xgI ph2 7 8 a0).bind fun t3 =>
        if t3.toInt64 ≤ t1 then
          f_ObjectFile_areGroupsGood_164 F c ph2
        else
          if ((a1 >>> (t1.toInt32 &&& 31)) &&& (nI 1)) = 0 then
            f_ObjectFile_areGroupsGood_116 F c k4 n a0 (a1 ||| ((nI 1) <<< (t1.toInt32 &&& 31))) a2 a3 a7 (a8 + nI 4) ph2
          else
            f_ObjectFile_areGroupsGood_164 F c ph2
theorem r_ObjectFile_areGroupsGood_116 {l : Launch} {g : px_G} {d F : Nat} {k4 : Nat → Int32 → Int32 → px_H → Option (Int32 × px_H)} (hk4 : ∀ {a0 : Nat} {a1 : Int32} {a2 : Int32} {ph : px_H} {r : Int32} {ph' : px_H}, k4 a0 a1 a2 ph = some (r, ph') → PW l g (d + 2) m_ObjectFile_areGroupsGood 4 [.ref a0, .int a1, .int a2, px_u, px_u, px_u, px_u, px_u, px_u, px_u, px_u] [] ph (px_qI r ph')) : ∀ (n : Nat) {a0 : Nat} {a1 : Int32} {a2 : Int32} {a3 : Int64} {a7 : Int32} {a8 : Int32} {ph : px_H} {r : Int32} {ph' : px_H}, f_ObjectFile_areGroupsGood_116 F (px_ct g) k4 n a0 a1 a2 a3 a7 a8 ph = some (r, ph') → PW l g (d + 2) m_ObjectFile_areGroupsGood 116 [.ref a0, .int a1, .int a2, .long a3, px_u, px_u, px_u, .int a7, .int a8, px_u, px_u] [] ph (px_qI r ph') := by
  intro n
  induction n with
  | zero => intro _ _ _ _ _ _ _ _ _ h; cases h
  | succ n ih =>
    intro a0 a1 a2 a3 a7 a8 ph r ph' h
    unfold f_ObjectFile_areGroupsGood_116 at h
    refine px_ld rfl rfl rfl rfl rfl ?_
    refine px_alu rfl rfl rfl ?_
    refine px_ld rfl rfl rfl rfl rfl ?_
    refine px_alu rfl rfl rfl ?_
    refine px_ifge rfl (by decide) rfl (fun hc => ?_) (fun hc => ?_)
    · replace h := (if_pos ((lg_cmp_ge _ _).mp hc)).symm.trans h
      refine px_forget (n := 3) (lv' := [_, _, _, _, _, _, _, _, _, _, _]) rfl ?_
      refine px_forget (n := 7) (lv' := [_, _, _, _, _, _, _, _, _, _, _]) rfl ?_
      refine px_forget (n := 8) (lv' := [_, _, _, _, _, _, _, _, _, _, _]) rfl ?_
      exact (r_ObjectFile_areGroupsGood_180 @hk4 h :)
    · replace h := (if_neg (fun q => hc ((lg_cmp_ge _ _).mpr q))).symm.trans h
      refine px_ld rfl rfl rfl rfl rfl ?_
      refine px_ld rfl rfl rfl rfl rfl ?_
      refine px_ld rfl rfl rfl rfl rfl ?_
      refine px_alu rfl rfl rfl ?_
      refine px_ic (k := 4) rfl rfl rfl ?_
      obtain ⟨fs, h0, h⟩ := xs_some h
      have e1 := xo_some h0
      obtain ⟨t1, ph2, h0, h⟩ := xb_some h
      refine px_cV2 rfl rfl e1 rfl rfl rfl rfl rfl rfl rfl (r_ObjectFile_num h0 :) (fun _ _ q => nomatch q.2) (fun r ph' q => ?_)
      obtain ⟨rfl, q⟩ := q
      cases q
      refine px_st (lv' := [_, _, _, _, _, _, _, _, _, _, _]) rfl rfl rfl rfl rfl rfl rfl ?_
      refine px_ld rfl rfl rfl rfl rfl ?_
      refine px_alu rfl rfl rfl ?_
      refine px_alu rfl rfl rfl ?_
      refine px_iflt rfl (by decide) rfl (fun hc => ?_) (fun hc => ?_)
      · replace h := (if_pos ((lg_cmp_lt _ _).mp hc)).symm.trans h
        refine px_forget (n := 0) (lv' := [_, _, _, _, _, _, _, _, _, _, _]) rfl ?_
        refine px_forget (n := 1) (lv' := [_, _, _, _, _, _, _, _, _, _, _]) rfl ?_
        refine px_forget (n := 2) (lv' := [_, _, _, _, _, _, _, _, _, _, _]) rfl ?_
        refine px_forget (n := 3) (lv' := [_, _, _, _, _, _, _, _, _, _, _]) rfl ?_
        refine px_forget (n := 7) (lv' := [_, _, _, _, _, _, _, _, _, _, _]) rfl ?_
        refine px_forget (n := 8) (lv' := [_, _, _, _, _, _, _, _, _, _, _]) rfl ?_
        refine px_forget (n := 9) (lv' := [_, _, _, _, _, _, _, _, _, _, _]) rfl ?_
        exact (r_ObjectFile_areGroupsGood_164 h :)
      · replace h := (if_neg (fun q => hc ((lg_cmp_lt _ _).mpr q))).symm.trans h
        refine px_ld rfl rfl rfl rfl rfl ?_
        refine px_ld rfl rfl rfl rfl rfl ?_
        obtain ⟨t3, h0, h⟩ := xs_some h
        obtain ⟨fs, e1, e2⟩ := xgI_some h0
        refine px_get rfl e1 e2 rfl ?_
        refine px_alu rfl rfl rfl ?_
        refine px_alu rfl rfl rfl ?_
        refine px_ifge rfl (by decide) rfl (fun hc => ?_) (fun hc => ?_)
        · replace h := (if_pos ((lg_cmp_ge _ _).mp hc)).symm.trans h
          refine px_forget (n := 0) (lv' := [_, _, _, _, _, _, _, _, _, _, _]) rfl ?_
          refine px_forget (n := 1) (lv' := [_, _, _, _, _, _, _, _, _, _, _]) rfl ?_
          refine px_forget (n := 2) (lv' := [_, _, _, _, _, _, _, _, _, _, _]) rfl ?_
          refine px_forget (n := 3) (lv' := [_, _, _, _, _, _, _, _, _, _, _]) rfl ?_
          refine px_forget (n := 7) (lv' := [_, _, _, _, _, _, _, _, _, _, _]) rfl ?_
          refine px_forget (n := 8) (lv' := [_, _, _, _, _, _, _, _, _, _, _]) rfl ?_
          refine px_forget (n := 9) (lv' := [_, _, _, _, _, _, _, _, _, _, _]) rfl ?_
          exact (r_ObjectFile_areGroupsGood_164 h :)
        · replace h := (if_neg (fun q => hc ((lg_cmp_ge _ _).mpr q))).symm.trans h
          refine px_ld rfl rfl rfl rfl rfl ?_
          refine px_ld rfl rfl rfl rfl rfl ?_
          refine px_alu rfl rfl rfl ?_
          refine px_alu rfl rfl rfl ?_
          refine px_ic (k := 1) rfl rfl rfl ?_
          refine px_alu rfl rfl rfl ?_
          refine px_ifeq rfl (by decide) rfl (fun hc => ?_) (fun hc => ?_)
          · replace h := (if_pos hc).symm.trans h
            refine px_ld rfl rfl rfl rfl rfl ?_
            refine px_ic (k := 1) rfl rfl rfl ?_
            refine px_ld rfl rfl rfl rfl rfl ?_
            refine px_alu rfl rfl rfl ?_
            refine px_alu rfl rfl rfl ?_
            refine px_alu rfl rfl rfl ?_
            refine px_st (lv' := [_, _, _, _, _, _, _, _, _, _, _]) rfl rfl rfl rfl rfl rfl rfl ?_
            refine px_iinc (lv' := [_, _, _, _, _, _, _, _, _, _, _]) rfl rfl rfl rfl rfl rfl ?_
            refine px_goto rfl (by decide) rfl ?_
            refine px_forget (n := 9) (lv' := [_, _, _, _, _, _, _, _, _, _, _]) rfl ?_
            exact (ih h :)
          · replace h := (if_neg hc).symm.trans h
            refine px_forget (n := 0) (lv' := [_, _, _, _, _, _, _, _, _, _, _]) rfl ?_
            refine px_forget (n := 1) (lv' := [_, _, _, _, _, _, _, _, _, _, _]) rfl ?_
            refine px_forget (n := 2) (lv' := [_, _, _, _, _, _, _, _, _, _, _]) rfl ?_
            refine px_forget (n := 3) (lv' := [_, _, _, _, _, _, _, _, _, _, _]) rfl ?_
            refine px_forget (n := 7) (lv' := [_, _, _, _, _, _, _, _, _, _, _]) rfl ?_
            refine px_forget (n := 8) (lv' := [_, _, _, _, _, _, _, _, _, _, _]) rfl ?_
            refine px_forget (n := 9) (lv' := [_, _, _, _, _, _, _, _, _, _, _]) rfl ?_
            exact (r_ObjectFile_areGroupsGood_164 h :)
def f_ObjectFile_areGroupsGood_111 (F : Nat) (c : px_CT) (ph : px_H) : Option (Int32 × px_H) :=
  some (nI 0, ph)
theorem r_ObjectFile_areGroupsGood_111 {l : Launch} {g : px_G} {d F : Nat} {ph : px_H} {r : Int32} {ph' : px_H} (h : f_ObjectFile_areGroupsGood_111 F (px_ct g) ph = some (r, ph')) : PW l g (d + 2) m_ObjectFile_areGroupsGood 111 [px_u, px_u, px_u, px_u, px_u, px_u, px_u, px_u, px_u, px_u, px_u] [] ph (px_qI r ph') := by
  unfold f_ObjectFile_areGroupsGood_111 at h
  refine px_ic (k := 0) rfl rfl rfl ?_
  cases h
  exact px_iret rfl (Or.inr ⟨rfl, Or.inl rfl⟩) rfl ⟨rfl, rfl⟩
def f_ObjectFile_areGroupsGood_4 (F : Nat) (c : px_CT) : Nat → Nat → Int32 → Int32 → px_H → Option (Int32 × px_H)
  | 0, _, _, _, _ => none
  | n + 1, a0, a1, a2, ph =>
    (xgI ph 7 8 a0).bind fun t1 =>
    if t1 ≤ a2 then
      f_ObjectFile_areGroupsGood_186 F c ph
    else
      (xo ph 7 a0).bind fun _ =>
      xb (f_ObjectFile_typeOf F c a0 a2 ph) fun t2 ph3 =>
      if t2 = ((17 : Int64)) then
        (xo ph3 7 a0).bind fun _ =>
        xb (f_ObjectFile_lengthOf F c a0 a2 ph3) fun t4 ph5 =>
        (xo ph5 7 a0).bind fun _ =>
        xb (f_ObjectFile_infoOf F c a0 a2 ph5) fun t6 ph7 =>
        (xo ph7 7 a0).bind fun _ =>
        xb (f_ObjectFile_placeOf F c a0 a2 ph7) fun t8 ph9 =>
        if t4 = (lN 0) then
          f_ObjectFile_areGroupsGood_111 F c ph9
        else
          if (t4 - t4 / ((4 : Int64)) * ((4 : Int64))) = (lN 0) then
            (xo ph9 7 a0).bind fun _ =>
            xb (f_ObjectFile_linkOf F c a0 a2 ph9) fun t10 ph11 =>
            (xgI ph11 7 9 a0).bind fun t12 =>
            if t10 = t12.toInt64 then
              (xgI ph11 7 11 a0).bind fun t13 =>
              if t13.toInt64 ≤ t6 then
                f_ObjectFile_areGroupsGood_111 F c ph11
              else
                (xo ph11 7 a0).bind fun _ =>
                xb (f_ObjectFile_bindOf F c a0 t6.toInt32 ph11) fun t14 ph15 =>
                if t14 = 0 then
                  f_ObjectFile_areGroupsGood_111 F c ph15
                else
                  (xo ph15 7 a0).bind fun _ =>
                  xb (f_ObjectFile_num F c a0 t8.toInt32 (nI 4) ph15) fun t16 ph17 =>
                  if t16 ≤ (lN 1) then
                    f_ObjectFile_areGroupsGood_116 F c (f_ObjectFile_areGroupsGood_4 F c n) F a0 a1 a2 t4 t8.toInt32 (nI 4) ph17
                  else
                    f_ObjectFile_areGroupsGood_111 F c ph17
            else
              f_ObjectFile_areGroupsGood_111 F c ph11
          else
            f_ObjectFile_areGroupsGood_111 F c ph9
      else
        f_ObjectFile_areGroupsGood_180 F c (f_ObjectFile_areGroupsGood_4 F c n) a0 a1 a2 ph3
theorem r_ObjectFile_areGroupsGood_4 {l : Launch} {g : px_G} {d F : Nat} : ∀ (n : Nat) {a0 : Nat} {a1 : Int32} {a2 : Int32} {ph : px_H} {r : Int32} {ph' : px_H}, f_ObjectFile_areGroupsGood_4 F (px_ct g) n a0 a1 a2 ph = some (r, ph') → PW l g (d + 2) m_ObjectFile_areGroupsGood 4 [.ref a0, .int a1, .int a2, px_u, px_u, px_u, px_u, px_u, px_u, px_u, px_u] [] ph (px_qI r ph') := by
  intro n
  induction n with
  | zero => intro _ _ _ _ _ _ h; cases h
  | succ n ih =>
    intro a0 a1 a2 ph r ph' h
    unfold f_ObjectFile_areGroupsGood_4 at h
    refine px_ld rfl rfl rfl rfl rfl ?_
    refine px_ld rfl rfl rfl rfl rfl ?_
    obtain ⟨t1, h0, h⟩ := xs_some h
    obtain ⟨fs, e1, e2⟩ := xgI_some h0
    refine px_get rfl e1 e2 rfl ?_
    refine px_icge rfl (by decide) rfl (fun hc => ?_) (fun hc => ?_)
    · replace h := (if_pos hc).symm.trans h
      refine px_forget (n := 0) (lv' := [_, _, _, _, _, _, _, _, _, _, _]) rfl ?_
      refine px_forget (n := 1) (lv' := [_, _, _, _, _, _, _, _, _, _, _]) rfl ?_
      refine px_forget (n := 2) (lv' := [_, _, _, _, _, _, _, _, _, _, _]) rfl ?_
      exact (r_ObjectFile_areGroupsGood_186 h :)
    · replace h := (if_neg hc).symm.trans h
      refine px_ld rfl rfl rfl rfl rfl ?_
      refine px_ld rfl rfl rfl rfl rfl ?_
      obtain ⟨fs, h0, h⟩ := xs_some h
      have e1 := xo_some h0
      obtain ⟨t2, ph3, h0, h⟩ := xb_some h
      refine px_cV1 rfl rfl e1 rfl rfl rfl rfl rfl rfl rfl (r_ObjectFile_typeOf h0 :) (fun _ _ q => nomatch q.2) (fun r ph' q => ?_)
      obtain ⟨rfl, q⟩ := q
      cases q
      refine px_ldc2 rfl rfl rfl ?_
      refine px_alu rfl rfl rfl ?_
      refine px_ifeq rfl (by decide) rfl (fun hc => ?_) (fun hc => ?_)
      · replace h := (if_pos ((lg_cmp_eq _ _).mp hc)).symm.trans h
        refine px_ld rfl rfl rfl rfl rfl ?_
        refine px_ld rfl rfl rfl rfl rfl ?_
        obtain ⟨fs, h0, h⟩ := xs_some h
        have e1 := xo_some h0
        obtain ⟨t4, ph5, h0, h⟩ := xb_some h
        refine px_cV1 rfl rfl e1 rfl rfl rfl rfl rfl rfl rfl (r_ObjectFile_lengthOf h0 :) (fun _ _ q => nomatch q.2) (fun r ph' q => ?_)
        obtain ⟨rfl, q⟩ := q
        cases q
        refine px_st (lv' := [_, _, _, _, _, _, _, _, _, _, _]) rfl rfl rfl rfl rfl rfl rfl ?_
        refine px_ld rfl rfl rfl rfl rfl ?_
        refine px_ld rfl rfl rfl rfl rfl ?_
        obtain ⟨fs, h0, h⟩ := xs_some h
        have e1 := xo_some h0
        obtain ⟨t6, ph7, h0, h⟩ := xb_some h
        refine px_cV1 rfl rfl e1 rfl rfl rfl rfl rfl rfl rfl (r_ObjectFile_infoOf h0 :) (fun _ _ q => nomatch q.2) (fun r ph' q => ?_)
        obtain ⟨rfl, q⟩ := q
        cases q
        refine px_st (lv' := [_, _, _, _, _, _, _, _, _, _, _]) rfl rfl rfl rfl rfl rfl rfl ?_
        refine px_ld rfl rfl rfl rfl rfl ?_
        refine px_ld rfl rfl rfl rfl rfl ?_
        obtain ⟨fs, h0, h⟩ := xs_some h
        have e1 := xo_some h0
        obtain ⟨t8, ph9, h0, h⟩ := xb_some h
        refine px_cV1 rfl rfl e1 rfl rfl rfl rfl rfl rfl rfl (r_ObjectFile_placeOf h0 :) (fun _ _ q => nomatch q.2) (fun r ph' q => ?_)
        obtain ⟨rfl, q⟩ := q
        cases q
        refine px_alu rfl rfl rfl ?_
        refine px_st (lv' := [_, _, _, _, _, _, _, _, _, _, _]) rfl rfl rfl rfl rfl rfl rfl ?_
        refine px_ld rfl rfl rfl rfl rfl ?_
        refine px_alu rfl rfl rfl ?_
        refine px_alu rfl rfl rfl ?_
        refine px_ifeq rfl (by decide) rfl (fun hc => ?_) (fun hc => ?_)
        · replace h := (if_pos ((lg_cmp_eq _ _).mp hc)).symm.trans h
          refine px_forget (n := 0) (lv' := [_, _, _, _, _, _, _, _, _, _, _]) rfl ?_
          refine px_forget (n := 1) (lv' := [_, _, _, _, _, _, _, _, _, _, _]) rfl ?_
          refine px_forget (n := 2) (lv' := [_, _, _, _, _, _, _, _, _, _, _]) rfl ?_
          refine px_forget (n := 3) (lv' := [_, _, _, _, _, _, _, _, _, _, _]) rfl ?_
          refine px_forget (n := 5) (lv' := [_, _, _, _, _, _, _, _, _, _, _]) rfl ?_
          refine px_forget (n := 7) (lv' := [_, _, _, _, _, _, _, _, _, _, _]) rfl ?_
          exact (r_ObjectFile_areGroupsGood_111 h :)
        · replace h := (if_neg (fun q => hc ((lg_cmp_eq _ _).mpr q))).symm.trans h
          refine px_ld rfl rfl rfl rfl rfl ?_
          refine px_ldc2 rfl rfl rfl ?_
          refine px_lrem rfl (by decide) rfl ?_
          refine px_alu rfl rfl rfl ?_
          refine px_alu rfl rfl rfl ?_
          refine px_ifne rfl (by decide) rfl (fun hc => ?_) (fun hc => ?_)
          · replace h := (if_neg (fun q => hc ((lg_cmp_eq _ _).mpr q))).symm.trans h
            refine px_forget (n := 0) (lv' := [_, _, _, _, _, _, _, _, _, _, _]) rfl ?_
            refine px_forget (n := 1) (lv' := [_, _, _, _, _, _, _, _, _, _, _]) rfl ?_
            refine px_forget (n := 2) (lv' := [_, _, _, _, _, _, _, _, _, _, _]) rfl ?_
            refine px_forget (n := 3) (lv' := [_, _, _, _, _, _, _, _, _, _, _]) rfl ?_
            refine px_forget (n := 5) (lv' := [_, _, _, _, _, _, _, _, _, _, _]) rfl ?_
            refine px_forget (n := 7) (lv' := [_, _, _, _, _, _, _, _, _, _, _]) rfl ?_
            exact (r_ObjectFile_areGroupsGood_111 h :)
          · replace h := (if_pos ((lg_cmp_eq _ _).mp hc)).symm.trans h
            refine px_ld rfl rfl rfl rfl rfl ?_
            refine px_ld rfl rfl rfl rfl rfl ?_
            obtain ⟨fs, h0, h⟩ := xs_some h
            have e1 := xo_some h0
            obtain ⟨t10, ph11, h0, h⟩ := xb_some h
            refine px_cV1 rfl rfl e1 rfl rfl rfl rfl rfl rfl rfl (r_ObjectFile_linkOf h0 :) (fun _ _ q => nomatch q.2) (fun r ph' q => ?_)
            obtain ⟨rfl, q⟩ := q
            cases q
            refine px_ld rfl rfl rfl rfl rfl ?_
            obtain ⟨t12, h0, h⟩ := xs_some h
            obtain ⟨fs, e1, e2⟩ := xgI_some h0
            refine px_get rfl e1 e2 rfl ?_
            refine px_alu rfl rfl rfl ?_
            refine px_alu rfl rfl rfl ?_
            refine px_ifne rfl (by decide) rfl (fun hc => ?_) (fun hc => ?_)
            · replace h := (if_neg (fun q => hc ((lg_cmp_eq _ _).mpr q))).symm.trans h
              refine px_forget (n := 0) (lv' := [_, _, _, _, _, _, _, _, _, _, _]) rfl ?_
              refine px_forget (n := 1) (lv' := [_, _, _, _, _, _, _, _, _, _, _]) rfl ?_
              refine px_forget (n := 2) (lv' := [_, _, _, _, _, _, _, _, _, _, _]) rfl ?_
              refine px_forget (n := 3) (lv' := [_, _, _, _, _, _, _, _, _, _, _]) rfl ?_
              refine px_forget (n := 5) (lv' := [_, _, _, _, _, _, _, _, _, _, _]) rfl ?_
              refine px_forget (n := 7) (lv' := [_, _, _, _, _, _, _, _, _, _, _]) rfl ?_
              exact (r_ObjectFile_areGroupsGood_111 h :)
            · replace h := (if_pos ((lg_cmp_eq _ _).mp hc)).symm.trans h
              refine px_ld rfl rfl rfl rfl rfl ?_
              refine px_ld rfl rfl rfl rfl rfl ?_
              obtain ⟨t13, h0, h⟩ := xs_some h
              obtain ⟨fs, e1, e2⟩ := xgI_some h0
              refine px_get rfl e1 e2 rfl ?_
              refine px_alu rfl rfl rfl ?_
              refine px_alu rfl rfl rfl ?_
              refine px_ifge rfl (by decide) rfl (fun hc => ?_) (fun hc => ?_)
              · replace h := (if_pos ((lg_cmp_ge _ _).mp hc)).symm.trans h
                refine px_forget (n := 0) (lv' := [_, _, _, _, _, _, _, _, _, _, _]) rfl ?_
                refine px_forget (n := 1) (lv' := [_, _, _, _, _, _, _, _, _, _, _]) rfl ?_
                refine px_forget (n := 2) (lv' := [_, _, _, _, _, _, _, _, _, _, _]) rfl ?_
                refine px_forget (n := 3) (lv' := [_, _, _, _, _, _, _, _, _, _, _]) rfl ?_
                refine px_forget (n := 5) (lv' := [_, _, _, _, _, _, _, _, _, _, _]) rfl ?_
                refine px_forget (n := 7) (lv' := [_, _, _, _, _, _, _, _, _, _, _]) rfl ?_
                exact (r_ObjectFile_areGroupsGood_111 h :)
              · replace h := (if_neg (fun q => hc ((lg_cmp_ge _ _).mpr q))).symm.trans h
                refine px_ld rfl rfl rfl rfl rfl ?_
                refine px_ld rfl rfl rfl rfl rfl ?_
                refine px_alu rfl rfl rfl ?_
                obtain ⟨fs, h0, h⟩ := xs_some h
                have e1 := xo_some h0
                obtain ⟨t14, ph15, h0, h⟩ := xb_some h
                refine px_cV1 rfl rfl e1 rfl rfl rfl rfl rfl rfl rfl (r_ObjectFile_bindOf h0 :) (fun _ _ q => nomatch q.2) (fun r ph' q => ?_)
                obtain ⟨rfl, q⟩ := q
                cases q
                refine px_ifeq rfl (by decide) rfl (fun hc => ?_) (fun hc => ?_)
                · replace h := (if_pos hc).symm.trans h
                  refine px_forget (n := 0) (lv' := [_, _, _, _, _, _, _, _, _, _, _]) rfl ?_
                  refine px_forget (n := 1) (lv' := [_, _, _, _, _, _, _, _, _, _, _]) rfl ?_
                  refine px_forget (n := 2) (lv' := [_, _, _, _, _, _, _, _, _, _, _]) rfl ?_
                  refine px_forget (n := 3) (lv' := [_, _, _, _, _, _, _, _, _, _, _]) rfl ?_
                  refine px_forget (n := 5) (lv' := [_, _, _, _, _, _, _, _, _, _, _]) rfl ?_
                  refine px_forget (n := 7) (lv' := [_, _, _, _, _, _, _, _, _, _, _]) rfl ?_
                  exact (r_ObjectFile_areGroupsGood_111 h :)
                · replace h := (if_neg hc).symm.trans h
                  refine px_ld rfl rfl rfl rfl rfl ?_
                  refine px_ld rfl rfl rfl rfl rfl ?_
                  refine px_ic (k := 4) rfl rfl rfl ?_
                  obtain ⟨fs, h0, h⟩ := xs_some h
                  have e1 := xo_some h0
                  obtain ⟨t16, ph17, h0, h⟩ := xb_some h
                  refine px_cV2 rfl rfl e1 rfl rfl rfl rfl rfl rfl rfl (r_ObjectFile_num h0 :) (fun _ _ q => nomatch q.2) (fun r ph' q => ?_)
                  obtain ⟨rfl, q⟩ := q
                  cases q
                  refine px_alu rfl rfl rfl ?_
                  refine px_alu rfl rfl rfl ?_
                  refine px_ifle rfl (by decide) rfl (fun hc => ?_) (fun hc => ?_)
                  · replace h := (if_pos ((lg_cmp_le _ _).mp hc)).symm.trans h
                    refine px_ic (k := 4) rfl rfl rfl ?_
                    refine px_st (lv' := [_, _, _, _, _, _, _, _, _, _, _]) rfl rfl rfl rfl rfl rfl rfl ?_
                    refine px_forget (n := 5) (lv' := [_, _, _, _, _, _, _, _, _, _, _]) rfl ?_
                    exact (r_ObjectFile_areGroupsGood_116 @ih _ h :)
                  · replace h := (if_neg (fun q => hc ((lg_cmp_le _ _).mpr q))).symm.trans h
                    refine px_forget (n := 0) (lv' := [_, _, _, _, _, _, _, _, _, _, _]) rfl ?_
                    refine px_forget (n := 1) (lv' := [_, _, _, _, _, _, _, _, _, _, _]) rfl ?_
                    refine px_forget (n := 2) (lv' := [_, _, _, _, _, _, _, _, _, _, _]) rfl ?_
                    refine px_forget (n := 3) (lv' := [_, _, _, _, _, _, _, _, _, _, _]) rfl ?_
                    refine px_forget (n := 5) (lv' := [_, _, _, _, _, _, _, _, _, _, _]) rfl ?_
                    refine px_forget (n := 7) (lv' := [_, _, _, _, _, _, _, _, _, _, _]) rfl ?_
                    exact (r_ObjectFile_areGroupsGood_111 h :)
      · replace h := (if_neg (fun q => hc ((lg_cmp_eq _ _).mpr q))).symm.trans h
        refine px_goto rfl (by decide) rfl ?_
        exact (r_ObjectFile_areGroupsGood_180 @ih h :)
def f_ObjectFile_areGroupsGood (F : Nat) (c : px_CT) (a0 : Nat) (ph : px_H) : Option (Int32 × px_H) :=
  f_ObjectFile_areGroupsGood_4 F c F a0 (nI 0) (nI 0) ph
theorem r_ObjectFile_areGroupsGood {l : Launch} {g : px_G} {d F : Nat} {a0 : Nat} {ph : px_H} {r : Int32} {ph' : px_H} (h : f_ObjectFile_areGroupsGood F (px_ct g) a0 ph = some (r, ph')) : PW l g (d + 2) m_ObjectFile_areGroupsGood 0 [.ref a0, px_u, px_u, px_u, px_u, px_u, px_u, px_u, px_u, px_u, px_u] [] ph (px_qI r ph') := by
  unfold f_ObjectFile_areGroupsGood at h
  refine px_ic (k := 0) rfl rfl rfl ?_
  refine px_st (lv' := [_, _, _, _, _, _, _, _, _, _, _]) rfl rfl rfl rfl rfl rfl rfl ?_
  refine px_ic (k := 0) rfl rfl rfl ?_
  refine px_st (lv' := [_, _, _, _, _, _, _, _, _, _, _]) rfl rfl rfl rfl rfl rfl rfl ?_
  exact (r_ObjectFile_areGroupsGood_4 _ h :)
def f_ObjectFile_isStringRow_63 (F : Nat) (c : px_CT) (s0 : Int32) (ph : px_H) : Option (Int32 × px_H) :=
  xz s0 ph
theorem r_ObjectFile_isStringRow_63 {l : Launch} {g : px_G} {d F : Nat} {s0 : Int32} {ph : px_H} {r : Int32} {ph' : px_H} (h : f_ObjectFile_isStringRow_63 F (px_ct g) s0 ph = some (r, ph')) : PW l g (d + 2) m_ObjectFile_isStringRow 63 [px_u, px_u, px_u, px_u] [.int s0] ph (px_qI r ph') := by
  unfold f_ObjectFile_isStringRow_63 at h
  obtain ⟨e0, e1, e2⟩ := xz_some h
  subst e1 e2
  exact px_iret rfl (Or.inr ⟨rfl, e0⟩) rfl ⟨rfl, rfl⟩
def f_ObjectFile_isStringRow_62 (F : Nat) (c : px_CT) (ph : px_H) : Option (Int32 × px_H) :=
  f_ObjectFile_isStringRow_63 F c (nI 0) ph
theorem r_ObjectFile_isStringRow_62 {l : Launch} {g : px_G} {d F : Nat} {ph : px_H} {r : Int32} {ph' : px_H} (h : f_ObjectFile_isStringRow_62 F (px_ct g) ph = some (r, ph')) : PW l g (d + 2) m_ObjectFile_isStringRow 62 [px_u, px_u, px_u, px_u] [] ph (px_qI r ph') := by
  unfold f_ObjectFile_isStringRow_62 at h
  refine px_ic (k := 0) rfl rfl rfl ?_
  exact (r_ObjectFile_isStringRow_63 h :)
def f_ObjectFile_isStringRow (F : Nat) (c : px_CT) (a0 : Nat) (a1 : Int32) (ph : px_H) : Option (Int32 × px_H) :=
  (xo ph 7 a0).bind fun _ =>
  xb (f_ObjectFile_lengthOf F c a0 a1 ph) fun t1 ph2 =>
  (xo ph2 7 a0).bind fun _ =>
  xb (f_ObjectFile_flagsOf F c a0 a1 ph2) fun t3 ph4 =>
  if (t3 &&& ((48 : Int64))) = ((48 : Int64)) then
    (xo ph4 7 a0).bind fun _ =>
    xb (f_ObjectFile_alignOf F c a0 a1 ph4) fun t5 ph6 =>
    if (lN 1) < t5 then
      f_ObjectFile_isStringRow_62 F c ph6
    else
      if t1 ≤ (lN 0) then
        f_ObjectFile_isStringRow_62 F c ph6
      else
        (xo ph6 7 a0).bind fun _ =>
        xb (f_ObjectFile_placeOf F c a0 a1 ph6) fun t7 ph8 =>
        (xo ph8 7 a0).bind fun _ =>
        xb (f_ObjectFile_num F c a0 (((t7 + t1).toInt32) - (nI 1)) (nI 1) ph8) fun t9 ph10 =>
        if t9 = (lN 0) then
          f_ObjectFile_isStringRow_63 F c (nI 1) ph10
        else
          f_ObjectFile_isStringRow_62 F c ph10
  else
    f_ObjectFile_isStringRow_62 F c ph4
theorem r_ObjectFile_isStringRow {l : Launch} {g : px_G} {d F : Nat} {a0 : Nat} {a1 : Int32} {ph : px_H} {r : Int32} {ph' : px_H} (h : f_ObjectFile_isStringRow F (px_ct g) a0 a1 ph = some (r, ph')) : PW l g (d + 2) m_ObjectFile_isStringRow 0 [.ref a0, .int a1, px_u, px_u] [] ph (px_qI r ph') := by
  unfold f_ObjectFile_isStringRow at h
  refine px_ld rfl rfl rfl rfl rfl ?_
  refine px_ld rfl rfl rfl rfl rfl ?_
  obtain ⟨fs, h0, h⟩ := xs_some h
  have e1 := xo_some h0
  obtain ⟨t1, ph2, h0, h⟩ := xb_some h
  refine px_cV1 rfl rfl e1 rfl rfl rfl rfl rfl rfl rfl (r_ObjectFile_lengthOf h0 :) (fun _ _ q => nomatch q.2) (fun r ph' q => ?_)
  obtain ⟨rfl, q⟩ := q
  cases q
  refine px_st (lv' := [_, _, _, _]) rfl rfl rfl rfl rfl rfl rfl ?_
  refine px_ld rfl rfl rfl rfl rfl ?_
  refine px_ld rfl rfl rfl rfl rfl ?_
  obtain ⟨fs, h0, h⟩ := xs_some h
  have e1 := xo_some h0
  obtain ⟨t3, ph4, h0, h⟩ := xb_some h
  refine px_cV1 rfl rfl e1 rfl rfl rfl rfl rfl rfl rfl (r_ObjectFile_flagsOf h0 :) (fun _ _ q => nomatch q.2) (fun r ph' q => ?_)
  obtain ⟨rfl, q⟩ := q
  cases q
  refine px_ldc2 rfl rfl rfl ?_
  refine px_alu rfl rfl rfl ?_
  refine px_ldc2 rfl rfl rfl ?_
  refine px_alu rfl rfl rfl ?_
  refine px_ifne rfl rfl rfl (fun hc => ?_) (fun hc => ?_)
  · replace h := (if_neg (fun q => hc ((lg_cmp_eq _ _).mpr q))).symm.trans h
    refine px_forget (n := 0) (lv' := [_, _, _, _]) rfl ?_
    refine px_forget (n := 1) (lv' := [_, _, _, _]) rfl ?_
    refine px_forget (n := 2) (lv' := [_, _, _, _]) rfl ?_
    exact (r_ObjectFile_isStringRow_62 h :)
  · replace h := (if_pos ((lg_cmp_eq _ _).mp hc)).symm.trans h
    refine px_ld rfl rfl rfl rfl rfl ?_
    refine px_ld rfl rfl rfl rfl rfl ?_
    obtain ⟨fs, h0, h⟩ := xs_some h
    have e1 := xo_some h0
    obtain ⟨t5, ph6, h0, h⟩ := xb_some h
    refine px_cV1 rfl rfl e1 rfl rfl rfl rfl rfl rfl rfl (r_ObjectFile_alignOf h0 :) (fun _ _ q => nomatch q.2) (fun r ph' q => ?_)
    obtain ⟨rfl, q⟩ := q
    cases q
    refine px_alu rfl rfl rfl ?_
    refine px_alu rfl rfl rfl ?_
    refine px_ifgt rfl rfl rfl (fun hc => ?_) (fun hc => ?_)
    · replace h := (if_pos ((lg_cmp_gt _ _).mp hc)).symm.trans h
      refine px_forget (n := 0) (lv' := [_, _, _, _]) rfl ?_
      refine px_forget (n := 1) (lv' := [_, _, _, _]) rfl ?_
      refine px_forget (n := 2) (lv' := [_, _, _, _]) rfl ?_
      exact (r_ObjectFile_isStringRow_62 h :)
    · replace h := (if_neg (fun q => hc ((lg_cmp_gt _ _).mpr q))).symm.trans h
      refine px_ld rfl rfl rfl rfl rfl ?_
      refine px_alu rfl rfl rfl ?_
      refine px_alu rfl rfl rfl ?_
      refine px_ifle rfl rfl rfl (fun hc => ?_) (fun hc => ?_)
      · replace h := (if_pos ((lg_cmp_le _ _).mp hc)).symm.trans h
        refine px_forget (n := 0) (lv' := [_, _, _, _]) rfl ?_
        refine px_forget (n := 1) (lv' := [_, _, _, _]) rfl ?_
        refine px_forget (n := 2) (lv' := [_, _, _, _]) rfl ?_
        exact (r_ObjectFile_isStringRow_62 h :)
      · replace h := (if_neg (fun q => hc ((lg_cmp_le _ _).mpr q))).symm.trans h
        refine px_ld rfl rfl rfl rfl rfl ?_
        refine px_ld rfl rfl rfl rfl rfl ?_
        refine px_ld rfl rfl rfl rfl rfl ?_
        obtain ⟨fs, h0, h⟩ := xs_some h
        have e1 := xo_some h0
        obtain ⟨t7, ph8, h0, h⟩ := xb_some h
        refine px_cV1 rfl rfl e1 rfl rfl rfl rfl rfl rfl rfl (r_ObjectFile_placeOf h0 :) (fun _ _ q => nomatch q.2) (fun r ph' q => ?_)
        obtain ⟨rfl, q⟩ := q
        cases q
        refine px_ld rfl rfl rfl rfl rfl ?_
        refine px_alu rfl rfl rfl ?_
        refine px_alu rfl rfl rfl ?_
        refine px_ic (k := 1) rfl rfl rfl ?_
        refine px_alu rfl rfl rfl ?_
        refine px_ic (k := 1) rfl rfl rfl ?_
        obtain ⟨fs, h0, h⟩ := xs_some h
        have e1 := xo_some h0
        obtain ⟨t9, ph10, h0, h⟩ := xb_some h
        refine px_cV2 rfl rfl e1 rfl rfl rfl rfl rfl rfl rfl (r_ObjectFile_num h0 :) (fun _ _ q => nomatch q.2) (fun r ph' q => ?_)
        obtain ⟨rfl, q⟩ := q
        cases q
        refine px_alu rfl rfl rfl ?_
        refine px_alu rfl rfl rfl ?_
        refine px_ifne rfl rfl rfl (fun hc => ?_) (fun hc => ?_)
        · replace h := (if_neg (fun q => hc ((lg_cmp_eq _ _).mpr q))).symm.trans h
          refine px_forget (n := 0) (lv' := [_, _, _, _]) rfl ?_
          refine px_forget (n := 1) (lv' := [_, _, _, _]) rfl ?_
          refine px_forget (n := 2) (lv' := [_, _, _, _]) rfl ?_
          exact (r_ObjectFile_isStringRow_62 h :)
        · replace h := (if_pos ((lg_cmp_eq _ _).mp hc)).symm.trans h
          refine px_ic (k := 1) rfl rfl rfl ?_
          refine px_goto rfl rfl rfl ?_
          refine px_forget (n := 0) (lv' := [_, _, _, _]) rfl ?_
          refine px_forget (n := 1) (lv' := [_, _, _, _]) rfl ?_
          refine px_forget (n := 2) (lv' := [_, _, _, _]) rfl ?_
          exact (r_ObjectFile_isStringRow_63 h :)
def f_ObjectFile_findStrings_91 (F : Nat) (c : px_CT) (ph : px_H) : Option (Unit × px_H) :=
  some ((), ph)
theorem r_ObjectFile_findStrings_91 {l : Launch} {g : px_G} {d F : Nat} {ph : px_H} {r : Unit} {ph' : px_H} (h : f_ObjectFile_findStrings_91 F (px_ct g) ph = some (r, ph')) : PW l g (d + 3) m_ObjectFile_findStrings 91 [px_u, px_u, px_u] [] ph (px_qV r ph') := by
  unfold f_ObjectFile_findStrings_91 at h
  cases h
  exact px_vret rfl rfl rfl ⟨rfl, rfl⟩
def f_ObjectFile_findStrings_85 (F : Nat) (c : px_CT) (k53 : Nat → Int32 → px_H → Option (Unit × px_H)) (a0 : Nat) (a1 : Int32) (ph : px_H) : Option (Unit × px_H) :=
  k53 a0 (a1 + nI 1) ph
theorem r_ObjectFile_findStrings_85 {l : Launch} {g : px_G} {d F : Nat} {k53 : Nat → Int32 → px_H → Option (Unit × px_H)} (hk53 : ∀ {a0 : Nat} {a1 : Int32} {ph : px_H} {r : Unit} {ph' : px_H}, k53 a0 a1 ph = some (r, ph') → PW l g (d + 3) m_ObjectFile_findStrings 53 [.ref a0, .int a1, px_u] [] ph (px_qV r ph')) {a0 : Nat} {a1 : Int32} {ph : px_H} {r : Unit} {ph' : px_H} (h : f_ObjectFile_findStrings_85 F (px_ct g) k53 a0 a1 ph = some (r, ph')) : PW l g (d + 3) m_ObjectFile_findStrings 85 [.ref a0, .int a1, px_u] [] ph (px_qV r ph') := by
  unfold f_ObjectFile_findStrings_85 at h
  refine px_iinc (lv' := [_, _, _]) rfl rfl rfl rfl rfl rfl ?_
  refine px_goto rfl rfl rfl ?_
  exact (hk53 h :)
def f_ObjectFile_findStrings_53 (F : Nat) (c : px_CT) : Nat → Nat → Int32 → px_H → Option (Unit × px_H)
  | 0, _, _, _ => none
  | n + 1, a0, a1, ph =>
    (xgI ph 7 8 a0).bind fun t1 =>
    if t1 ≤ a1 then
      f_ObjectFile_findStrings_91 F c ph
    else
      (xo ph 7 a0).bind fun _ =>
      xb (f_ObjectFile_targetOf F c a0 a1 ph) fun t2 ph3 =>
      if t2 < 0 then
        f_ObjectFile_findStrings_85 F c (f_ObjectFile_findStrings_53 F c n) a0 a1 ph3
      else
        (xgI ph3 7 14 a0).bind fun t4 =>
        (xpI ph3 7 14 a0 (t4 &&& (((nI 1) <<< (t2 &&& 31)) ^^^ (Int32.ofInt (-1))))).bind fun ph5 =>
        f_ObjectFile_findStrings_85 F c (f_ObjectFile_findStrings_53 F c n) a0 a1 ph5
theorem r_ObjectFile_findStrings_53 {l : Launch} {g : px_G} {d F : Nat} : ∀ (n : Nat) {a0 : Nat} {a1 : Int32} {ph : px_H} {r : Unit} {ph' : px_H}, f_ObjectFile_findStrings_53 F (px_ct g) n a0 a1 ph = some (r, ph') → PW l g (d + 3) m_ObjectFile_findStrings 53 [.ref a0, .int a1, px_u] [] ph (px_qV r ph') := by
  intro n
  induction n with
  | zero => intro _ _ _ _ _ h; cases h
  | succ n ih =>
    intro a0 a1 ph r ph' h
    unfold f_ObjectFile_findStrings_53 at h
    refine px_ld rfl rfl rfl rfl rfl ?_
    refine px_ld rfl rfl rfl rfl rfl ?_
    obtain ⟨t1, h0, h⟩ := xs_some h
    obtain ⟨fs, e1, e2⟩ := xgI_some h0
    refine px_get rfl e1 e2 rfl ?_
    refine px_icge rfl rfl rfl (fun hc => ?_) (fun hc => ?_)
    · replace h := (if_pos hc).symm.trans h
      refine px_forget (n := 0) (lv' := [_, _, _]) rfl ?_
      refine px_forget (n := 1) (lv' := [_, _, _]) rfl ?_
      exact (r_ObjectFile_findStrings_91 h :)
    · replace h := (if_neg hc).symm.trans h
      refine px_ld rfl rfl rfl rfl rfl ?_
      refine px_ld rfl rfl rfl rfl rfl ?_
      obtain ⟨fs, h0, h⟩ := xs_some h
      have e1 := xo_some h0
      obtain ⟨t2, ph3, h0, h⟩ := xb_some h
      refine px_cV1 rfl rfl e1 rfl rfl rfl rfl rfl rfl rfl (r_ObjectFile_targetOf h0 :) (fun _ _ q => nomatch q.2) (fun r ph' q => ?_)
      obtain ⟨rfl, q⟩ := q
      cases q
      refine px_st (lv' := [_, _, _]) rfl rfl rfl rfl rfl rfl rfl ?_
      refine px_ld rfl rfl rfl rfl rfl ?_
      refine px_iflt rfl rfl rfl (fun hc => ?_) (fun hc => ?_)
      · replace h := (if_pos hc).symm.trans h
        refine px_forget (n := 2) (lv' := [_, _, _]) rfl ?_
        exact (r_ObjectFile_findStrings_85 @ih h :)
      · replace h := (if_neg hc).symm.trans h
        refine px_ld rfl rfl rfl rfl rfl ?_
        refine px_alu rfl rfl rfl ?_
        obtain ⟨t4, h0, h⟩ := xs_some h
        obtain ⟨fs, e1, e2⟩ := xgI_some h0
        refine px_get rfl e1 e2 rfl ?_
        refine px_ic (k := 1) rfl rfl rfl ?_
        refine px_ld rfl rfl rfl rfl rfl ?_
        refine px_alu rfl rfl rfl ?_
        refine px_alu rfl rfl rfl ?_
        refine px_alu rfl rfl rfl ?_
        refine px_alu rfl rfl rfl ?_
        obtain ⟨ph5, h0, h⟩ := xs_some h
        obtain ⟨fs, e1, e2, e3⟩ := xpI_some h0
        subst e3
        refine px_put rfl e1 e2 trivial rfl ?_
        refine px_forget (n := 2) (lv' := [_, _, _]) rfl ?_
        exact (r_ObjectFile_findStrings_85 @ih h :)
def f_ObjectFile_findStrings_51 (F : Nat) (c : px_CT) (a0 : Nat) (ph : px_H) : Option (Unit × px_H) :=
  f_ObjectFile_findStrings_53 F c F a0 (nI 0) ph
theorem r_ObjectFile_findStrings_51 {l : Launch} {g : px_G} {d F : Nat} {a0 : Nat} {ph : px_H} {r : Unit} {ph' : px_H} (h : f_ObjectFile_findStrings_51 F (px_ct g) a0 ph = some (r, ph')) : PW l g (d + 3) m_ObjectFile_findStrings 51 [.ref a0, px_u, px_u] [] ph (px_qV r ph') := by
  unfold f_ObjectFile_findStrings_51 at h
  refine px_ic (k := 0) rfl rfl rfl ?_
  refine px_st (lv' := [_, _, _]) rfl rfl rfl rfl rfl rfl rfl ?_
  exact (r_ObjectFile_findStrings_53 _ h :)
def f_ObjectFile_findStrings_45 (F : Nat) (c : px_CT) (k7 : Nat → Int32 → px_H → Option (Unit × px_H)) (a0 : Nat) (a1 : Int32) (ph : px_H) : Option (Unit × px_H) :=
  k7 a0 (a1 + nI 1) ph
theorem r_ObjectFile_findStrings_45 {l : Launch} {g : px_G} {d F : Nat} {k7 : Nat → Int32 → px_H → Option (Unit × px_H)} (hk7 : ∀ {a0 : Nat} {a1 : Int32} {ph : px_H} {r : Unit} {ph' : px_H}, k7 a0 a1 ph = some (r, ph') → PW l g (d + 3) m_ObjectFile_findStrings 7 [.ref a0, .int a1, px_u] [] ph (px_qV r ph')) {a0 : Nat} {a1 : Int32} {ph : px_H} {r : Unit} {ph' : px_H} (h : f_ObjectFile_findStrings_45 F (px_ct g) k7 a0 a1 ph = some (r, ph')) : PW l g (d + 3) m_ObjectFile_findStrings 45 [.ref a0, .int a1, px_u] [] ph (px_qV r ph') := by
  unfold f_ObjectFile_findStrings_45 at h
  refine px_iinc (lv' := [_, _, _]) rfl rfl rfl rfl rfl rfl ?_
  refine px_goto rfl rfl rfl ?_
  exact (hk7 h :)
def f_ObjectFile_findStrings_7 (F : Nat) (c : px_CT) : Nat → Nat → Int32 → px_H → Option (Unit × px_H)
  | 0, _, _, _ => none
  | n + 1, a0, a1, ph =>
    (xgI ph 7 8 a0).bind fun t1 =>
    if t1 ≤ a1 then
      f_ObjectFile_findStrings_51 F c a0 ph
    else
      (xo ph 7 a0).bind fun _ =>
      xb (f_ObjectFile_groupOf F c a0 a1.toInt64 ph) fun t2 ph3 =>
      if t2 = (nI 1) then
        (xo ph3 7 a0).bind fun _ =>
        xb (f_ObjectFile_isStringRow F c a0 a1 ph3) fun t4 ph5 =>
        if t4 = 0 then
          f_ObjectFile_findStrings_45 F c (f_ObjectFile_findStrings_7 F c n) a0 a1 ph5
        else
          (xgI ph5 7 14 a0).bind fun t6 =>
          (xpI ph5 7 14 a0 (t6 ||| ((nI 1) <<< (a1 &&& 31)))).bind fun ph7 =>
          f_ObjectFile_findStrings_45 F c (f_ObjectFile_findStrings_7 F c n) a0 a1 ph7
      else
        f_ObjectFile_findStrings_45 F c (f_ObjectFile_findStrings_7 F c n) a0 a1 ph3
theorem r_ObjectFile_findStrings_7 {l : Launch} {g : px_G} {d F : Nat} : ∀ (n : Nat) {a0 : Nat} {a1 : Int32} {ph : px_H} {r : Unit} {ph' : px_H}, f_ObjectFile_findStrings_7 F (px_ct g) n a0 a1 ph = some (r, ph') → PW l g (d + 3) m_ObjectFile_findStrings 7 [.ref a0, .int a1, px_u] [] ph (px_qV r ph') := by
  intro n
  induction n with
  | zero => intro _ _ _ _ _ h; cases h
  | succ n ih =>
    intro a0 a1 ph r ph' h
    unfold f_ObjectFile_findStrings_7 at h
    refine px_ld rfl rfl rfl rfl rfl ?_
    refine px_ld rfl rfl rfl rfl rfl ?_
    obtain ⟨t1, h0, h⟩ := xs_some h
    obtain ⟨fs, e1, e2⟩ := xgI_some h0
    refine px_get rfl e1 e2 rfl ?_
    refine px_icge rfl rfl rfl (fun hc => ?_) (fun hc => ?_)
    · replace h := (if_pos hc).symm.trans h
      refine px_forget (n := 1) (lv' := [_, _, _]) rfl ?_
      exact (r_ObjectFile_findStrings_51 h :)
    · replace h := (if_neg hc).symm.trans h
      refine px_ld rfl rfl rfl rfl rfl ?_
      refine px_ld rfl rfl rfl rfl rfl ?_
      refine px_alu rfl rfl rfl ?_
      obtain ⟨fs, h0, h⟩ := xs_some h
      have e1 := xo_some h0
      obtain ⟨t2, ph3, h0, h⟩ := xb_some h
      refine px_cV1 rfl rfl e1 rfl rfl rfl rfl rfl rfl rfl (r_ObjectFile_groupOf h0 :) (fun _ _ q => nomatch q.2) (fun r ph' q => ?_)
      obtain ⟨rfl, q⟩ := q
      cases q
      refine px_ic (k := 1) rfl rfl rfl ?_
      refine px_icne rfl rfl rfl (fun hc => ?_) (fun hc => ?_)
      · replace h := (if_neg hc).symm.trans h
        exact (r_ObjectFile_findStrings_45 @ih h :)
      · replace h := (if_pos hc).symm.trans h
        refine px_ld rfl rfl rfl rfl rfl ?_
        refine px_ld rfl rfl rfl rfl rfl ?_
        obtain ⟨fs, h0, h⟩ := xs_some h
        have e1 := xo_some h0
        obtain ⟨t4, ph5, h0, h⟩ := xb_some h
        refine px_cV1 rfl rfl e1 rfl rfl rfl rfl rfl rfl rfl (r_ObjectFile_isStringRow h0 :) (fun _ _ q => nomatch q.2) (fun r ph' q => ?_)
        obtain ⟨rfl, q⟩ := q
        cases q
        refine px_ifeq rfl rfl rfl (fun hc => ?_) (fun hc => ?_)
        · replace h := (if_pos hc).symm.trans h
          exact (r_ObjectFile_findStrings_45 @ih h :)
        · replace h := (if_neg hc).symm.trans h
          refine px_ld rfl rfl rfl rfl rfl ?_
          refine px_alu rfl rfl rfl ?_
          obtain ⟨t6, h0, h⟩ := xs_some h
          obtain ⟨fs, e1, e2⟩ := xgI_some h0
          refine px_get rfl e1 e2 rfl ?_
          refine px_ic (k := 1) rfl rfl rfl ?_
          refine px_ld rfl rfl rfl rfl rfl ?_
          refine px_alu rfl rfl rfl ?_
          refine px_alu rfl rfl rfl ?_
          obtain ⟨ph7, h0, h⟩ := xs_some h
          obtain ⟨fs, e1, e2, e3⟩ := xpI_some h0
          subst e3
          refine px_put rfl e1 e2 trivial rfl ?_
          exact (r_ObjectFile_findStrings_45 @ih h :)
def f_ObjectFile_findStrings (F : Nat) (c : px_CT) (a0 : Nat) (ph : px_H) : Option (Unit × px_H) :=
  (xpI ph 7 14 a0 (nI 0)).bind fun ph1 =>
  f_ObjectFile_findStrings_7 F c F a0 (nI 0) ph1
theorem r_ObjectFile_findStrings {l : Launch} {g : px_G} {d F : Nat} {a0 : Nat} {ph : px_H} {r : Unit} {ph' : px_H} (h : f_ObjectFile_findStrings F (px_ct g) a0 ph = some (r, ph')) : PW l g (d + 3) m_ObjectFile_findStrings 0 [.ref a0, px_u, px_u] [] ph (px_qV r ph') := by
  unfold f_ObjectFile_findStrings at h
  refine px_ld rfl rfl rfl rfl rfl ?_
  refine px_ic (k := 0) rfl rfl rfl ?_
  obtain ⟨ph1, h0, h⟩ := xs_some h
  obtain ⟨fs, e1, e2, e3⟩ := xpI_some h0
  subst e3
  refine px_put rfl e1 e2 trivial rfl ?_
  refine px_ic (k := 0) rfl rfl rfl ?_
  refine px_st (lv' := [_, _, _]) rfl rfl rfl rfl rfl rfl rfl ?_
  exact (r_ObjectFile_findStrings_7 _ h :)
def f_ObjectFile_readError_65 (F : Nat) (c : px_CT) (a0 : Nat) (a1 : Nat) (ph : px_H) : Option (Int32 × px_H) :=
  (xo ph 7 a0).bind fun _ =>
  xb (f_ObjectFile_areSitesGood F c a0 a1 ph) fun t1 ph2 =>
  if t1 = 0 then
    some (nI 7, ph2)
  else
    (xo ph2 7 a0).bind fun _ =>
    xb (f_ObjectFile_areGroupsGood F c a0 ph2) fun t3 ph4 =>
    if t3 = 0 then
      some (nI 9, ph4)
    else
      (xo ph4 7 a0).bind fun _ =>
      xb (f_ObjectFile_findStrings F c a0 ph4) fun _ ph5 =>
      some (nI 0, ph5)
theorem r_ObjectFile_readError_65 {l : Launch} {g : px_G} {d F : Nat} {a0 : Nat} {a1 : Nat} {ph : px_H} {r : Int32} {ph' : px_H} (h : f_ObjectFile_readError_65 F (px_ct g) a0 a1 ph = some (r, ph')) : PW l g (d + 4) m_ObjectFile_readError 65 [.ref a0, .ref a1, px_u, px_u] [] ph (px_qI r ph') := by
  unfold f_ObjectFile_readError_65 at h
  refine px_ld rfl rfl rfl rfl rfl ?_
  refine px_ld rfl rfl rfl rfl rfl ?_
  obtain ⟨fs, h0, h⟩ := xs_some h
  have e1 := xo_some h0
  obtain ⟨t1, ph2, h0, h⟩ := xb_some h
  refine px_cV1 rfl rfl e1 rfl rfl rfl rfl rfl rfl rfl (r_ObjectFile_areSitesGood h0 :) (fun _ _ q => nomatch q.2) (fun r ph' q => ?_)
  obtain ⟨rfl, q⟩ := q
  cases q
  refine px_ifne rfl rfl rfl (fun hc => ?_) (fun hc => ?_)
  · replace h := (if_neg hc).symm.trans h
    refine px_ld rfl rfl rfl rfl rfl ?_
    obtain ⟨fs, h0, h⟩ := xs_some h
    have e1 := xo_some h0
    obtain ⟨t3, ph4, h0, h⟩ := xb_some h
    refine px_cV0 rfl rfl e1 rfl rfl rfl rfl rfl rfl rfl (r_ObjectFile_areGroupsGood h0 :) (fun _ _ q => nomatch q.2) (fun r ph' q => ?_)
    obtain ⟨rfl, q⟩ := q
    cases q
    refine px_ifne rfl rfl rfl (fun hc => ?_) (fun hc => ?_)
    · replace h := (if_neg hc).symm.trans h
      refine px_ld rfl rfl rfl rfl rfl ?_
      obtain ⟨fs, h0, h⟩ := xs_some h
      have e1 := xo_some h0
      obtain ⟨u0, ph5, h0, h⟩ := xb_some h
      refine px_cV0 rfl rfl e1 rfl rfl rfl rfl rfl rfl rfl (r_ObjectFile_findStrings h0 :) (fun _ _ q => nomatch q.2) (fun r ph' q => ?_)
      obtain ⟨rfl, q⟩ := q
      cases q
      refine px_ic (k := 0) rfl rfl rfl ?_
      cases h
      exact px_iret rfl (Or.inl rfl) rfl ⟨rfl, rfl⟩
    · replace h := (if_pos hc).symm.trans h
      refine px_ic (k := 9) rfl rfl rfl ?_
      cases h
      exact px_iret rfl (Or.inl rfl) rfl ⟨rfl, rfl⟩
  · replace h := (if_pos hc).symm.trans h
    refine px_ic (k := 7) rfl rfl rfl ?_
    cases h
    exact px_iret rfl (Or.inl rfl) rfl ⟨rfl, rfl⟩
def f_ObjectFile_readError_56 (F : Nat) (c : px_CT) (ph : px_H) : Option (Int32 × px_H) :=
  some (nI 6, ph)
theorem r_ObjectFile_readError_56 {l : Launch} {g : px_G} {d F : Nat} {ph : px_H} {r : Int32} {ph' : px_H} (h : f_ObjectFile_readError_56 F (px_ct g) ph = some (r, ph')) : PW l g (d + 4) m_ObjectFile_readError 56 [px_u, px_u, px_u, px_u] [] ph (px_qI r ph') := by
  unfold f_ObjectFile_readError_56 at h
  refine px_ic (k := 6) rfl rfl rfl ?_
  cases h
  exact px_iret rfl (Or.inl rfl) rfl ⟨rfl, rfl⟩
def f_ObjectFile_readError_40 (F : Nat) (c : px_CT) : Nat → Nat → Nat → Int32 → px_H → Option (Int32 × px_H)
  | 0, _, _, _, _ => none
  | n + 1, a0, a1, a3, ph =>
    (xgI ph 7 11 a0).bind fun t1 =>
    if t1 ≤ a3 then
      f_ObjectFile_readError_65 F c a0 a1 ph
    else
      (xo ph 7 a0).bind fun _ =>
      xb (f_ObjectFile_isSymbolGood F c a0 a3 ph) fun t2 ph3 =>
      if t2 = 0 then
        f_ObjectFile_readError_56 F c ph3
      else
        f_ObjectFile_readError_40 F c n a0 a1 (a3 + nI 1) ph3
theorem r_ObjectFile_readError_40 {l : Launch} {g : px_G} {d F : Nat} : ∀ (n : Nat) {a0 : Nat} {a1 : Nat} {a3 : Int32} {ph : px_H} {r : Int32} {ph' : px_H}, f_ObjectFile_readError_40 F (px_ct g) n a0 a1 a3 ph = some (r, ph') → PW l g (d + 4) m_ObjectFile_readError 40 [.ref a0, .ref a1, px_u, .int a3] [] ph (px_qI r ph') := by
  intro n
  induction n with
  | zero => intro _ _ _ _ _ _ h; cases h
  | succ n ih =>
    intro a0 a1 a3 ph r ph' h
    unfold f_ObjectFile_readError_40 at h
    refine px_ld rfl rfl rfl rfl rfl ?_
    refine px_ld rfl rfl rfl rfl rfl ?_
    obtain ⟨t1, h0, h⟩ := xs_some h
    obtain ⟨fs, e1, e2⟩ := xgI_some h0
    refine px_get rfl e1 e2 rfl ?_
    refine px_icge rfl rfl rfl (fun hc => ?_) (fun hc => ?_)
    · replace h := (if_pos hc).symm.trans h
      refine px_forget (n := 3) (lv' := [_, _, _, _]) rfl ?_
      exact (r_ObjectFile_readError_65 h :)
    · replace h := (if_neg hc).symm.trans h
      refine px_ld rfl rfl rfl rfl rfl ?_
      refine px_ld rfl rfl rfl rfl rfl ?_
      obtain ⟨fs, h0, h⟩ := xs_some h
      have e1 := xo_some h0
      obtain ⟨t2, ph3, h0, h⟩ := xb_some h
      refine px_cV1 rfl rfl e1 rfl rfl rfl rfl rfl rfl rfl (r_ObjectFile_isSymbolGood h0 :) (fun _ _ q => nomatch q.2) (fun r ph' q => ?_)
      obtain ⟨rfl, q⟩ := q
      cases q
      refine px_ifne rfl rfl rfl (fun hc => ?_) (fun hc => ?_)
      · replace h := (if_neg hc).symm.trans h
        refine px_iinc (lv' := [_, _, _, _]) rfl rfl rfl rfl rfl rfl ?_
        refine px_goto rfl rfl rfl ?_
        exact (ih h :)
      · replace h := (if_pos hc).symm.trans h
        refine px_forget (n := 0) (lv' := [_, _, _, _]) rfl ?_
        refine px_forget (n := 1) (lv' := [_, _, _, _]) rfl ?_
        refine px_forget (n := 3) (lv' := [_, _, _, _]) rfl ?_
        exact (r_ObjectFile_readError_56 h :)
def f_ObjectFile_readError (F : Nat) (c : px_CT) (a0 : Nat) (a1 : Nat) (ph : px_H) : Option (Int32 × px_H) :=
  (xo ph 7 a0).bind fun _ =>
  xb (f_ObjectFile_isHeadGood F c a0 ph) fun t1 ph2 =>
  if t1 = 0 then
    some (nI 1, ph2)
  else
    (xo ph2 7 a0).bind fun _ =>
    xb (f_ObjectFile_areRowsGood F c a0 ph2) fun t3 ph4 =>
    if t3 = 0 then
      some (nI 2, ph4)
    else
      (xo ph4 7 a0).bind fun _ =>
      xb (f_ObjectFile_sectionsError F c a0 ph4) fun t5 ph6 =>
      if t5 = 0 then
        (xo ph6 7 a0).bind fun _ =>
        xb (f_ObjectFile_findSymbols F c a0 ph6) fun t7 ph8 =>
        if t7 = 0 then
          some (nI 5, ph8)
        else
          f_ObjectFile_readError_40 F c F a0 a1 (nI 1) ph8
      else
        some (t5, ph6)
theorem r_ObjectFile_readError {l : Launch} {g : px_G} {d F : Nat} {a0 : Nat} {a1 : Nat} {ph : px_H} {r : Int32} {ph' : px_H} (h : f_ObjectFile_readError F (px_ct g) a0 a1 ph = some (r, ph')) : PW l g (d + 4) m_ObjectFile_readError 0 [.ref a0, .ref a1, px_u, px_u] [] ph (px_qI r ph') := by
  unfold f_ObjectFile_readError at h
  refine px_ld rfl rfl rfl rfl rfl ?_
  obtain ⟨fs, h0, h⟩ := xs_some h
  have e1 := xo_some h0
  obtain ⟨t1, ph2, h0, h⟩ := xb_some h
  refine px_cV0 rfl rfl e1 rfl rfl rfl rfl rfl rfl rfl (r_ObjectFile_isHeadGood h0 :) (fun _ _ q => nomatch q.2) (fun r ph' q => ?_)
  obtain ⟨rfl, q⟩ := q
  cases q
  refine px_ifne rfl rfl rfl (fun hc => ?_) (fun hc => ?_)
  · replace h := (if_neg hc).symm.trans h
    refine px_ld rfl rfl rfl rfl rfl ?_
    obtain ⟨fs, h0, h⟩ := xs_some h
    have e1 := xo_some h0
    obtain ⟨t3, ph4, h0, h⟩ := xb_some h
    refine px_cV0 rfl rfl e1 rfl rfl rfl rfl rfl rfl rfl (r_ObjectFile_areRowsGood h0 :) (fun _ _ q => nomatch q.2) (fun r ph' q => ?_)
    obtain ⟨rfl, q⟩ := q
    cases q
    refine px_ifne rfl rfl rfl (fun hc => ?_) (fun hc => ?_)
    · replace h := (if_neg hc).symm.trans h
      refine px_ld rfl rfl rfl rfl rfl ?_
      obtain ⟨fs, h0, h⟩ := xs_some h
      have e1 := xo_some h0
      obtain ⟨t5, ph6, h0, h⟩ := xb_some h
      refine px_cV0 rfl rfl e1 rfl rfl rfl rfl rfl rfl rfl (r_ObjectFile_sectionsError h0 :) (fun _ _ q => nomatch q.2) (fun r ph' q => ?_)
      obtain ⟨rfl, q⟩ := q
      cases q
      refine px_st (lv' := [_, _, _, _]) rfl rfl rfl rfl rfl rfl rfl ?_
      refine px_ld rfl rfl rfl rfl rfl ?_
      refine px_ifeq rfl rfl rfl (fun hc => ?_) (fun hc => ?_)
      · replace h := (if_pos hc).symm.trans h
        refine px_ld rfl rfl rfl rfl rfl ?_
        obtain ⟨fs, h0, h⟩ := xs_some h
        have e1 := xo_some h0
        obtain ⟨t7, ph8, h0, h⟩ := xb_some h
        refine px_cV0 rfl rfl e1 rfl rfl rfl rfl rfl rfl rfl (r_ObjectFile_findSymbols h0 :) (fun _ _ q => nomatch q.2) (fun r ph' q => ?_)
        obtain ⟨rfl, q⟩ := q
        cases q
        refine px_ifne rfl rfl rfl (fun hc => ?_) (fun hc => ?_)
        · replace h := (if_neg hc).symm.trans h
          refine px_ic (k := 1) rfl rfl rfl ?_
          refine px_st (lv' := [_, _, _, _]) rfl rfl rfl rfl rfl rfl rfl ?_
          refine px_forget (n := 2) (lv' := [_, _, _, _]) rfl ?_
          exact (r_ObjectFile_readError_40 _ h :)
        · replace h := (if_pos hc).symm.trans h
          refine px_ic (k := 5) rfl rfl rfl ?_
          cases h
          exact px_iret rfl (Or.inl rfl) rfl ⟨rfl, rfl⟩
      · replace h := (if_neg hc).symm.trans h
        refine px_ld rfl rfl rfl rfl rfl ?_
        cases h
        exact px_iret rfl (Or.inl rfl) rfl ⟨rfl, rfl⟩
    · replace h := (if_pos hc).symm.trans h
      refine px_ic (k := 2) rfl rfl rfl ?_
      cases h
      exact px_iret rfl (Or.inl rfl) rfl ⟨rfl, rfl⟩
  · replace h := (if_pos hc).symm.trans h
    refine px_ic (k := 1) rfl rfl rfl ?_
    cases h
    exact px_iret rfl (Or.inl rfl) rfl ⟨rfl, rfl⟩
def f_H_readArchive_175 (F : Nat) (c : px_CT) (a4 : Int32) (ph : px_H) : Option (Int32 × px_H) :=
  some (a4, ph)
theorem r_H_readArchive_175 {l : Launch} {g : px_G} {d F : Nat} {a4 : Int32} {ph : px_H} {r : Int32} {ph' : px_H} (h : f_H_readArchive_175 F (px_ct g) a4 ph = some (r, ph')) : PW l g (d + 5) m_H_readArchive 175 [px_u, px_u, px_u, px_u, .int a4, px_u, px_u] [] ph (px_qI r ph') := by
  unfold f_H_readArchive_175 at h
  refine px_ld rfl rfl rfl rfl rfl ?_
  cases h
  exact px_iret rfl (Or.inl rfl) rfl ⟨rfl, rfl⟩
def f_H_readArchive_167 (F : Nat) (c : px_CT) (k122 : Nat → Int32 → Int32 → Int32 → px_H → Option (Int32 × px_H)) (a0 : Nat) (a1 : Int32) (a5 : Int32) (s0 : Int32) (ph : px_H) : Option (Int32 × px_H) :=
  k122 a0 a1 s0 (a5 + nI 1) ph
theorem r_H_readArchive_167 {l : Launch} {g : px_G} {d F : Nat} {k122 : Nat → Int32 → Int32 → Int32 → px_H → Option (Int32 × px_H)} (hk122 : ∀ {a0 : Nat} {a1 : Int32} {a4 : Int32} {a5 : Int32} {ph : px_H} {r : Int32} {ph' : px_H}, k122 a0 a1 a4 a5 ph = some (r, ph') → PW l g (d + 5) m_H_readArchive 122 [.ref a0, .int a1, px_u, px_u, .int a4, .int a5, px_u] [] ph (px_qI r ph')) {a0 : Nat} {a1 : Int32} {a5 : Int32} {s0 : Int32} {ph : px_H} {r : Int32} {ph' : px_H} (h : f_H_readArchive_167 F (px_ct g) k122 a0 a1 a5 s0 ph = some (r, ph')) : PW l g (d + 5) m_H_readArchive 167 [.ref a0, .int a1, px_u, px_u, px_u, .int a5, px_u] [.int s0] ph (px_qI r ph') := by
  unfold f_H_readArchive_167 at h
  refine px_st (lv' := [_, _, _, _, _, _, _]) rfl rfl rfl rfl rfl rfl rfl ?_
  refine px_iinc (lv' := [_, _, _, _, _, _, _]) rfl rfl rfl rfl rfl rfl ?_
  refine px_goto rfl (by decide) rfl ?_
  exact (hk122 h :)
def f_H_readArchive_122 (F : Nat) (c : px_CT) : Nat → Nat → Int32 → Int32 → Int32 → px_H → Option (Int32 × px_H)
  | 0, _, _, _, _, _ => none
  | n + 1, a0, a1, a4, a5, ph =>
    if (nI 8) ≤ a5 then
      f_H_readArchive_175 F c a4 ph
    else
      if a4 = 0 then
        (xgR ph 0 4 a0).bind fun t1 =>
        (xaN ph 4 t1 (a1 + a5)).bind fun t2 =>
        (t2).bind fun p3 =>
        (xgI ph 7 4 p3).bind fun t4 =>
        if t4 = (nI 2) then
          (xgR ph 0 7 a0).bind fun t5 =>
          (xo ph 7 p3).bind fun _ =>
          xb (f_ObjectFile_readError F c p3 t5 ph) fun t6 ph7 =>
          f_H_readArchive_167 F c (f_H_readArchive_122 F c n) a0 a1 a5 t6 ph7
        else
          f_H_readArchive_167 F c (f_H_readArchive_122 F c n) a0 a1 a5 (nI 0) ph
      else
        f_H_readArchive_175 F c a4 ph
theorem r_H_readArchive_122 {l : Launch} {g : px_G} {d F : Nat} : ∀ (n : Nat) {a0 : Nat} {a1 : Int32} {a4 : Int32} {a5 : Int32} {ph : px_H} {r : Int32} {ph' : px_H}, f_H_readArchive_122 F (px_ct g) n a0 a1 a4 a5 ph = some (r, ph') → PW l g (d + 5) m_H_readArchive 122 [.ref a0, .int a1, px_u, px_u, .int a4, .int a5, px_u] [] ph (px_qI r ph') := by
  intro n
  induction n with
  | zero => intro _ _ _ _ _ _ _ h; cases h
  | succ n ih =>
    intro a0 a1 a4 a5 ph r ph' h
    unfold f_H_readArchive_122 at h
    refine px_ld rfl rfl rfl rfl rfl ?_
    refine px_ic (k := 8) rfl rfl rfl ?_
    refine px_icge rfl (by decide) rfl (fun hc => ?_) (fun hc => ?_)
    · replace h := (if_pos hc).symm.trans h
      refine px_forget (n := 0) (lv' := [_, _, _, _, _, _, _]) rfl ?_
      refine px_forget (n := 1) (lv' := [_, _, _, _, _, _, _]) rfl ?_
      refine px_forget (n := 5) (lv' := [_, _, _, _, _, _, _]) rfl ?_
      exact (r_H_readArchive_175 h :)
    · replace h := (if_neg hc).symm.trans h
      refine px_ld rfl rfl rfl rfl rfl ?_
      refine px_ifne rfl (by decide) rfl (fun hc => ?_) (fun hc => ?_)
      · replace h := (if_neg hc).symm.trans h
        refine px_forget (n := 0) (lv' := [_, _, _, _, _, _, _]) rfl ?_
        refine px_forget (n := 1) (lv' := [_, _, _, _, _, _, _]) rfl ?_
        refine px_forget (n := 5) (lv' := [_, _, _, _, _, _, _]) rfl ?_
        exact (r_H_readArchive_175 h :)
      · replace h := (if_pos hc).symm.trans h
        refine px_ld rfl rfl rfl rfl rfl ?_
        obtain ⟨t1, h0, h⟩ := xs_some h
        obtain ⟨fs, e1, e2⟩ := xgR_some h0
        refine px_get rfl e1 e2 rfl ?_
        refine px_ld rfl rfl rfl rfl rfl ?_
        refine px_ld rfl rfl rfl rfl rfl ?_
        refine px_alu rfl rfl rfl ?_
        obtain ⟨t2, h0, h⟩ := xs_some h
        obtain ⟨N, f, e1, e2, e3⟩ := xaN_some h0
        refine px_aaldO rfl e1 rfl e2 e3 rfl ?_
        refine px_st (lv' := [.ref a0, .int a1, px_u, px_u, .int a4, .int a5, va_rf t2]) rfl rfl (by first | rfl | (cases t2 <;> rfl)) (by first | rfl | (cases t2 <;> rfl)) rfl (by first | rfl | (cases t2 <;> rfl)) rfl ?_
        refine px_ld rfl rfl rfl (by first | rfl | (cases t2 <;> rfl)) rfl ?_
        obtain ⟨p3, h0, h⟩ := xs_some h
        revert h
        subst h0
        intro h
        obtain ⟨t4, h0, h⟩ := xs_some h
        obtain ⟨fs, e1, e2⟩ := xgI_some h0
        refine px_get rfl e1 e2 rfl ?_
        refine px_ic (k := 2) rfl rfl rfl ?_
        refine px_icne rfl (by decide) rfl (fun hc => ?_) (fun hc => ?_)
        · replace h := (if_neg hc).symm.trans h
          refine px_ic (k := 0) rfl rfl rfl ?_
          refine px_forget (n := 4) (lv' := [_, _, _, _, _, _, _]) rfl ?_
          refine px_forget (n := 6) (lv' := [_, _, _, _, _, _, _]) rfl ?_
          exact (r_H_readArchive_167 @ih h :)
        · replace h := (if_pos hc).symm.trans h
          refine px_ld rfl rfl rfl rfl rfl ?_
          refine px_ld rfl rfl rfl rfl rfl ?_
          obtain ⟨t5, h0, h⟩ := xs_some h
          obtain ⟨fs, e1, e2⟩ := xgR_some h0
          refine px_get rfl e1 e2 rfl ?_
          obtain ⟨fs, h0, h⟩ := xs_some h
          have e1 := xo_some h0
          obtain ⟨t6, ph7, h0, h⟩ := xb_some h
          refine px_cV1 rfl rfl e1 rfl rfl rfl rfl rfl rfl rfl (r_ObjectFile_readError h0 :) (fun _ _ q => nomatch q.2) (fun r ph' q => ?_)
          obtain ⟨rfl, q⟩ := q
          cases q
          refine px_goto rfl (by decide) rfl ?_
          refine px_forget (n := 4) (lv' := [_, _, _, _, _, _, _]) rfl ?_
          refine px_forget (n := 6) (lv' := [_, _, _, _, _, _, _]) rfl ?_
          exact (r_H_readArchive_167 @ih h :)
def f_H_readArchive_102 (F : Nat) (c : px_CT) (a0 : Nat) (a1 : Int32) (a3 : Int32) (ph : px_H) : Option (Int32 × px_H) :=
  (xgR ph 0 0 a0).bind fun t1 =>
  (xgI ph 10 1 t1).bind fun t2 =>
  if a3 = t2 then
    f_H_readArchive_122 F c F a0 a1 (nI 0) (nI 0) ph
  else
    some (nI 8, ph)
theorem r_H_readArchive_102 {l : Launch} {g : px_G} {d F : Nat} {a0 : Nat} {a1 : Int32} {a3 : Int32} {ph : px_H} {r : Int32} {ph' : px_H} (h : f_H_readArchive_102 F (px_ct g) a0 a1 a3 ph = some (r, ph')) : PW l g (d + 5) m_H_readArchive 102 [.ref a0, .int a1, px_u, .int a3, px_u, px_u, px_u] [] ph (px_qI r ph') := by
  unfold f_H_readArchive_102 at h
  refine px_ld rfl rfl rfl rfl rfl ?_
  refine px_ld rfl rfl rfl rfl rfl ?_
  obtain ⟨t1, h0, h⟩ := xs_some h
  obtain ⟨fs, e1, e2⟩ := xgR_some h0
  refine px_get rfl e1 e2 rfl ?_
  obtain ⟨t2, h0, h⟩ := xs_some h
  obtain ⟨fs, e1, e2⟩ := xgI_some h0
  refine px_get rfl e1 e2 rfl ?_
  refine px_iceq rfl (by decide) rfl (fun hc => ?_) (fun hc => ?_)
  · replace h := (if_pos hc).symm.trans h
    refine px_ic (k := 0) rfl rfl rfl ?_
    refine px_st (lv' := [_, _, _, _, _, _, _]) rfl rfl rfl rfl rfl rfl rfl ?_
    refine px_ic (k := 0) rfl rfl rfl ?_
    refine px_st (lv' := [_, _, _, _, _, _, _]) rfl rfl rfl rfl rfl rfl rfl ?_
    refine px_forget (n := 3) (lv' := [_, _, _, _, _, _, _]) rfl ?_
    exact (r_H_readArchive_122 _ h :)
  · replace h := (if_neg hc).symm.trans h
    refine px_ic (k := 8) rfl rfl rfl ?_
    cases h
    exact px_iret rfl (Or.inl rfl) rfl ⟨rfl, rfl⟩
def f_H_readArchive_59 (F : Nat) (c : px_CT) (k8 : Nat → Int32 → Int32 → Int32 → Int32 → px_H → Option (Int32 × px_H)) (a0 : Nat) (a1 : Int32) (a2 : Int32) (a3 : Int32) (a4 : Int32) (a5 : Int32) (s0 : Int32) (ph : px_H) : Option (Int32 × px_H) :=
  (xgR ph 0 4 a0).bind fun t1 =>
  (xaN ph 4 t1 (a1 + a4)).bind fun t2 =>
  (t2).bind fun p3 =>
  (xo ph 7 p3).bind fun _ =>
  xb (f_ObjectFile_open F c p3 s0 ((a2 + a3) + (nI 60)) a5 ph) fun _ ph4 =>
  k8 a0 a1 a2 (a3 + (((nI 60) + a5) + (a5 &&& (nI 1)))) (a4 + nI 1) ph4
theorem r_H_readArchive_59 {l : Launch} {g : px_G} {d F : Nat} {k8 : Nat → Int32 → Int32 → Int32 → Int32 → px_H → Option (Int32 × px_H)} (hk8 : ∀ {a0 : Nat} {a1 : Int32} {a2 : Int32} {a3 : Int32} {a4 : Int32} {ph : px_H} {r : Int32} {ph' : px_H}, k8 a0 a1 a2 a3 a4 ph = some (r, ph') → PW l g (d + 5) m_H_readArchive 8 [.ref a0, .int a1, .int a2, .int a3, .int a4, px_u, px_u] [] ph (px_qI r ph')) {a0 : Nat} {a1 : Int32} {a2 : Int32} {a3 : Int32} {a4 : Int32} {a5 : Int32} {s0 : Int32} {ph : px_H} {r : Int32} {ph' : px_H} (h : f_H_readArchive_59 F (px_ct g) k8 a0 a1 a2 a3 a4 a5 s0 ph = some (r, ph')) : PW l g (d + 5) m_H_readArchive 59 [.ref a0, .int a1, .int a2, .int a3, .int a4, .int a5, px_u] [.int s0] ph (px_qI r ph') := by
  unfold f_H_readArchive_59 at h
  refine px_st (lv' := [_, _, _, _, _, _, _]) rfl rfl rfl rfl rfl rfl rfl ?_
  refine px_ld rfl rfl rfl rfl rfl ?_
  obtain ⟨t1, h0, h⟩ := xs_some h
  obtain ⟨fs, e1, e2⟩ := xgR_some h0
  refine px_get rfl e1 e2 rfl ?_
  refine px_ld rfl rfl rfl rfl rfl ?_
  refine px_ld rfl rfl rfl rfl rfl ?_
  refine px_alu rfl rfl rfl ?_
  obtain ⟨t2, h0, h⟩ := xs_some h
  obtain ⟨N, f, e1, e2, e3⟩ := xaN_some h0
  refine px_aaldO rfl e1 rfl e2 e3 rfl ?_
  refine px_ld rfl rfl rfl rfl rfl ?_
  refine px_ld rfl rfl rfl rfl rfl ?_
  refine px_ld rfl rfl rfl rfl rfl ?_
  refine px_alu rfl rfl rfl ?_
  refine px_ic (k := 60) rfl rfl rfl ?_
  refine px_alu rfl rfl rfl ?_
  refine px_ld rfl rfl rfl rfl rfl ?_
  obtain ⟨p3, h0, h⟩ := xs_some h
  revert h
  subst h0
  intro h
  obtain ⟨fs, h0, h⟩ := xs_some h
  have e1 := xo_some h0
  obtain ⟨u0, ph4, h0, h⟩ := xb_some h
  refine px_cV3 rfl rfl e1 rfl rfl rfl rfl rfl rfl rfl (r_ObjectFile_open h0 :) (fun _ _ q => nomatch q.2) (fun r ph' q => ?_)
  obtain ⟨rfl, q⟩ := q
  cases q
  refine px_ld rfl rfl rfl rfl rfl ?_
  refine px_ic (k := 60) rfl rfl rfl ?_
  refine px_ld rfl rfl rfl rfl rfl ?_
  refine px_alu rfl rfl rfl ?_
  refine px_ld rfl rfl rfl rfl rfl ?_
  refine px_ic (k := 1) rfl rfl rfl ?_
  refine px_alu rfl rfl rfl ?_
  refine px_alu rfl rfl rfl ?_
  refine px_alu rfl rfl rfl ?_
  refine px_st (lv' := [_, _, _, _, _, _, _]) rfl rfl rfl rfl rfl rfl rfl ?_
  refine px_iinc (lv' := [_, _, _, _, _, _, _]) rfl rfl rfl rfl rfl rfl ?_
  refine px_goto rfl (by decide) rfl ?_
  refine px_forget (n := 5) (lv' := [_, _, _, _, _, _, _]) rfl ?_
  refine px_forget (n := 6) (lv' := [_, _, _, _, _, _, _]) rfl ?_
  exact (hk8 h :)
def f_H_readArchive_38 (F : Nat) (c : px_CT) (ph : px_H) : Option (Int32 × px_H) :=
  some (nI 8, ph)
theorem r_H_readArchive_38 {l : Launch} {g : px_G} {d F : Nat} {ph : px_H} {r : Int32} {ph' : px_H} (h : f_H_readArchive_38 F (px_ct g) ph = some (r, ph')) : PW l g (d + 5) m_H_readArchive 38 [px_u, px_u, px_u, px_u, px_u, px_u, px_u] [] ph (px_qI r ph') := by
  unfold f_H_readArchive_38 at h
  refine px_ic (k := 8) rfl rfl rfl ?_
  cases h
  exact px_iret rfl (Or.inl rfl) rfl ⟨rfl, rfl⟩
def f_H_readArchive_8 (F : Nat) (c : px_CT) : Nat → Nat → Int32 → Int32 → Int32 → Int32 → px_H → Option (Int32 × px_H)
  | 0, _, _, _, _, _, _ => none
  | n + 1, a0, a1, a2, a3, a4, ph =>
    if (nI 8) ≤ a4 then
      f_H_readArchive_102 F c a0 a1 a3 ph
    else
      (xgR ph 0 0 a0).bind fun t1 =>
      (xgI ph 10 1 t1).bind fun t2 =>
      if t2 ≤ a3 then
        f_H_readArchive_102 F c a0 a1 a3 ph
      else
        (xo ph 0 a0).bind fun _ =>
        xb (f_H_memberSize F c a0 a3 ph) fun t3 ph4 =>
        if 0 ≤ t3 then
          (xgR ph4 0 0 a0).bind fun t5 =>
          (xo ph4 10 t5).bind fun _ =>
          xb (f_Row_at F c t5 a3 ph4) fun t6 ph7 =>
          if t6 = (nI 47) then
            f_H_readArchive_59 F c (f_H_readArchive_8 F c n) a0 a1 a2 a3 a4 t3 (nI 3) ph7
          else
            f_H_readArchive_59 F c (f_H_readArchive_8 F c n) a0 a1 a2 a3 a4 t3 (nI 2) ph7
        else
          f_H_readArchive_38 F c ph4
theorem r_H_readArchive_8 {l : Launch} {g : px_G} {d F : Nat} : ∀ (n : Nat) {a0 : Nat} {a1 : Int32} {a2 : Int32} {a3 : Int32} {a4 : Int32} {ph : px_H} {r : Int32} {ph' : px_H}, f_H_readArchive_8 F (px_ct g) n a0 a1 a2 a3 a4 ph = some (r, ph') → PW l g (d + 5) m_H_readArchive 8 [.ref a0, .int a1, .int a2, .int a3, .int a4, px_u, px_u] [] ph (px_qI r ph') := by
  intro n
  induction n with
  | zero => intro _ _ _ _ _ _ _ _ h; cases h
  | succ n ih =>
    intro a0 a1 a2 a3 a4 ph r ph' h
    unfold f_H_readArchive_8 at h
    refine px_ld rfl rfl rfl rfl rfl ?_
    refine px_ic (k := 8) rfl rfl rfl ?_
    refine px_icge rfl (by decide) rfl (fun hc => ?_) (fun hc => ?_)
    · replace h := (if_pos hc).symm.trans h
      refine px_forget (n := 2) (lv' := [_, _, _, _, _, _, _]) rfl ?_
      refine px_forget (n := 4) (lv' := [_, _, _, _, _, _, _]) rfl ?_
      exact (r_H_readArchive_102 h :)
    · replace h := (if_neg hc).symm.trans h
      refine px_ld rfl rfl rfl rfl rfl ?_
      refine px_ld rfl rfl rfl rfl rfl ?_
      obtain ⟨t1, h0, h⟩ := xs_some h
      obtain ⟨fs, e1, e2⟩ := xgR_some h0
      refine px_get rfl e1 e2 rfl ?_
      obtain ⟨t2, h0, h⟩ := xs_some h
      obtain ⟨fs, e1, e2⟩ := xgI_some h0
      refine px_get rfl e1 e2 rfl ?_
      refine px_icge rfl (by decide) rfl (fun hc => ?_) (fun hc => ?_)
      · replace h := (if_pos hc).symm.trans h
        refine px_forget (n := 2) (lv' := [_, _, _, _, _, _, _]) rfl ?_
        refine px_forget (n := 4) (lv' := [_, _, _, _, _, _, _]) rfl ?_
        exact (r_H_readArchive_102 h :)
      · replace h := (if_neg hc).symm.trans h
        refine px_ld rfl rfl rfl rfl rfl ?_
        refine px_ld rfl rfl rfl rfl rfl ?_
        obtain ⟨fs, h0, h⟩ := xs_some h
        have e1 := xo_some h0
        obtain ⟨t3, ph4, h0, h⟩ := xb_some h
        refine px_cV1 rfl rfl e1 rfl rfl rfl rfl rfl rfl rfl (r_H_memberSize h0 :) (fun _ _ q => nomatch q.2) (fun r ph' q => ?_)
        obtain ⟨rfl, q⟩ := q
        cases q
        refine px_st (lv' := [_, _, _, _, _, _, _]) rfl rfl rfl rfl rfl rfl rfl ?_
        refine px_ld rfl rfl rfl rfl rfl ?_
        refine px_ifge rfl (by decide) rfl (fun hc => ?_) (fun hc => ?_)
        · replace h := (if_pos hc).symm.trans h
          refine px_ld rfl rfl rfl rfl rfl ?_
          obtain ⟨t5, h0, h⟩ := xs_some h
          obtain ⟨fs, e1, e2⟩ := xgR_some h0
          refine px_get rfl e1 e2 rfl ?_
          refine px_ld rfl rfl rfl rfl rfl ?_
          obtain ⟨fs, h0, h⟩ := xs_some h
          have e1 := xo_some h0
          obtain ⟨t6, ph7, h0, h⟩ := xb_some h
          refine px_cV1 rfl rfl e1 rfl rfl rfl rfl rfl rfl rfl (r_Row_at h0 :) (fun _ _ q => nomatch q.2) (fun r ph' q => ?_)
          obtain ⟨rfl, q⟩ := q
          cases q
          refine px_ic (k := 47) rfl rfl rfl ?_
          refine px_icne rfl (by decide) rfl (fun hc => ?_) (fun hc => ?_)
          · replace h := (if_neg hc).symm.trans h
            refine px_ic (k := 2) rfl rfl rfl ?_
            exact (r_H_readArchive_59 @ih h :)
          · replace h := (if_pos hc).symm.trans h
            refine px_ic (k := 3) rfl rfl rfl ?_
            refine px_goto rfl (by decide) rfl ?_
            exact (r_H_readArchive_59 @ih h :)
        · replace h := (if_neg hc).symm.trans h
          refine px_forget (n := 0) (lv' := [_, _, _, _, _, _, _]) rfl ?_
          refine px_forget (n := 1) (lv' := [_, _, _, _, _, _, _]) rfl ?_
          refine px_forget (n := 2) (lv' := [_, _, _, _, _, _, _]) rfl ?_
          refine px_forget (n := 3) (lv' := [_, _, _, _, _, _, _]) rfl ?_
          refine px_forget (n := 4) (lv' := [_, _, _, _, _, _, _]) rfl ?_
          refine px_forget (n := 5) (lv' := [_, _, _, _, _, _, _]) rfl ?_
          exact (r_H_readArchive_38 h :)
def f_H_readArchive (F : Nat) (c : px_CT) (a0 : Nat) (a1 : Int32) (a2 : Int32) (ph : px_H) : Option (Int32 × px_H) :=
  (xkl c 1).bind fun t1 =>
  f_H_readArchive_8 F c F a0 a1 a2 t1 (nI 0) ph
theorem r_H_readArchive {l : Launch} {g : px_G} {d F : Nat} {a0 : Nat} {a1 : Int32} {a2 : Int32} {ph : px_H} {r : Int32} {ph' : px_H} (h : f_H_readArchive F (px_ct g) a0 a1 a2 ph = some (r, ph')) : PW l g (d + 5) m_H_readArchive 0 [.ref a0, .int a1, .int a2, px_u, px_u, px_u, px_u] [] ph (px_qI r ph') := by
  unfold f_H_readArchive at h
  refine px_gets rfl rfl ?_
  obtain ⟨t1, h0, h⟩ := xs_some h
  obtain ⟨e0, e3⟩ := xkl_some h0
  subst e3
  refine px_clen rfl e0 rfl ?_
  refine px_st (lv' := [_, _, _, _, _, _, _]) rfl rfl rfl rfl rfl rfl rfl ?_
  refine px_ic (k := 0) rfl rfl rfl ?_
  refine px_st (lv' := [_, _, _, _, _, _, _]) rfl rfl rfl rfl rfl rfl rfl ?_
  exact (r_H_readArchive_8 _ h :)
def f_H_readFile_64 (F : Nat) (c : px_CT) (a0 : Nat) (a1 : Int32) (a2 : Int32) (ph : px_H) : Option (Int32 × px_H) :=
  (xgR ph 0 4 a0).bind fun t1 =>
  (xaN ph 4 t1 a1).bind fun t2 =>
  (xgR ph 0 0 a0).bind fun t3 =>
  (xgI ph 10 1 t3).bind fun t4 =>
  (t2).bind fun p5 =>
  (xo ph 7 p5).bind fun _ =>
  xb (f_ObjectFile_open F c p5 (nI 1) a2 t4 ph) fun _ ph6 =>
  (xgR ph6 0 4 a0).bind fun t7 =>
  (xaN ph6 4 t7 a1).bind fun t8 =>
  (xgR ph6 0 7 a0).bind fun t9 =>
  (t8).bind fun p10 =>
  (xo ph6 7 p10).bind fun _ =>
  xb (f_ObjectFile_readError F c p10 t9 ph6) fun t11 ph12 =>
  some (t11, ph12)
theorem r_H_readFile_64 {l : Launch} {g : px_G} {d F : Nat} {a0 : Nat} {a1 : Int32} {a2 : Int32} {ph : px_H} {r : Int32} {ph' : px_H} (h : f_H_readFile_64 F (px_ct g) a0 a1 a2 ph = some (r, ph')) : PW l g (d + 6) m_H_readFile 64 [.ref a0, .int a1, .int a2] [] ph (px_qI r ph') := by
  unfold f_H_readFile_64 at h
  refine px_ld rfl rfl rfl rfl rfl ?_
  obtain ⟨t1, h0, h⟩ := xs_some h
  obtain ⟨fs, e1, e2⟩ := xgR_some h0
  refine px_get rfl e1 e2 rfl ?_
  refine px_ld rfl rfl rfl rfl rfl ?_
  obtain ⟨t2, h0, h⟩ := xs_some h
  obtain ⟨N, f, e1, e2, e3⟩ := xaN_some h0
  refine px_aaldO rfl e1 rfl e2 e3 rfl ?_
  refine px_ic (k := 1) rfl rfl rfl ?_
  refine px_ld rfl rfl rfl rfl rfl ?_
  refine px_ld rfl rfl rfl rfl rfl ?_
  obtain ⟨t3, h0, h⟩ := xs_some h
  obtain ⟨fs, e1, e2⟩ := xgR_some h0
  refine px_get rfl e1 e2 rfl ?_
  obtain ⟨t4, h0, h⟩ := xs_some h
  obtain ⟨fs, e1, e2⟩ := xgI_some h0
  refine px_get rfl e1 e2 rfl ?_
  obtain ⟨p5, h0, h⟩ := xs_some h
  revert h
  subst h0
  intro h
  obtain ⟨fs, h0, h⟩ := xs_some h
  have e1 := xo_some h0
  obtain ⟨u0, ph6, h0, h⟩ := xb_some h
  refine px_cV3 rfl rfl e1 rfl rfl rfl rfl rfl rfl rfl (r_ObjectFile_open h0 :) (fun _ _ q => nomatch q.2) (fun r ph' q => ?_)
  obtain ⟨rfl, q⟩ := q
  cases q
  refine px_ld rfl rfl rfl rfl rfl ?_
  obtain ⟨t7, h0, h⟩ := xs_some h
  obtain ⟨fs, e1, e2⟩ := xgR_some h0
  refine px_get rfl e1 e2 rfl ?_
  refine px_ld rfl rfl rfl rfl rfl ?_
  obtain ⟨t8, h0, h⟩ := xs_some h
  obtain ⟨N, f, e1, e2, e3⟩ := xaN_some h0
  refine px_aaldO rfl e1 rfl e2 e3 rfl ?_
  refine px_ld rfl rfl rfl rfl rfl ?_
  obtain ⟨t9, h0, h⟩ := xs_some h
  obtain ⟨fs, e1, e2⟩ := xgR_some h0
  refine px_get rfl e1 e2 rfl ?_
  obtain ⟨p10, h0, h⟩ := xs_some h
  revert h
  subst h0
  intro h
  obtain ⟨fs, h0, h⟩ := xs_some h
  have e1 := xo_some h0
  obtain ⟨t11, ph12, h0, h⟩ := xb_some h
  refine px_cV1 rfl rfl e1 rfl rfl rfl rfl rfl rfl rfl (r_ObjectFile_readError h0 :) (fun _ _ q => nomatch q.2) (fun r ph' q => ?_)
  obtain ⟨rfl, q⟩ := q
  cases q
  cases h
  exact px_iret rfl (Or.inl rfl) rfl ⟨rfl, rfl⟩
def f_H_readFile (F : Nat) (c : px_CT) (a0 : Nat) (a1 : Int32) (ph : px_H) : Option (Int32 × px_H) :=
  (xgR ph 0 3 a0).bind fun t1 =>
  (xgI ph 10 1 t1).bind fun t2 =>
  (xgR ph 0 3 a0).bind fun t3 =>
  (xgR ph 0 0 a0).bind fun t4 =>
  (xgR ph 10 0 t4).bind fun t5 =>
  (xgR ph 0 0 a0).bind fun t6 =>
  (xgI ph 10 1 t6).bind fun t7 =>
  (xo ph 10 t3).bind fun _ =>
  xb (f_Row_copy F c t3 t5 (nI 0) t7 ph) fun _ ph8 =>
  (xgR ph8 0 0 a0).bind fun t9 =>
  (xgI ph8 10 1 t9).bind fun t10 =>
  (xkl c 1).bind fun t11 =>
  if t10 < t11 then
    f_H_readFile_64 F c a0 a1 t2 ph8
  else
    (xgR ph8 0 0 a0).bind fun t12 =>
    (xo ph8 10 t12).bind fun _ =>
    xb (f_Row_begins F c t12 1 ph8) fun t13 ph14 =>
    if t13 = 0 then
      f_H_readFile_64 F c a0 a1 t2 ph14
    else
      (xo ph14 0 a0).bind fun _ =>
      xb (f_H_readArchive F c a0 a1 t2 ph14) fun t15 ph16 =>
      some (t15, ph16)
theorem r_H_readFile {l : Launch} {g : px_G} {d F : Nat} {a0 : Nat} {a1 : Int32} {ph : px_H} {r : Int32} {ph' : px_H} (h : f_H_readFile F (px_ct g) a0 a1 ph = some (r, ph')) : PW l g (d + 6) m_H_readFile 0 [.ref a0, .int a1, px_u] [] ph (px_qI r ph') := by
  unfold f_H_readFile at h
  refine px_ld rfl rfl rfl rfl rfl ?_
  obtain ⟨t1, h0, h⟩ := xs_some h
  obtain ⟨fs, e1, e2⟩ := xgR_some h0
  refine px_get rfl e1 e2 rfl ?_
  obtain ⟨t2, h0, h⟩ := xs_some h
  obtain ⟨fs, e1, e2⟩ := xgI_some h0
  refine px_get rfl e1 e2 rfl ?_
  refine px_st (lv' := [_, _, _]) rfl rfl rfl rfl rfl rfl rfl ?_
  refine px_ld rfl rfl rfl rfl rfl ?_
  obtain ⟨t3, h0, h⟩ := xs_some h
  obtain ⟨fs, e1, e2⟩ := xgR_some h0
  refine px_get rfl e1 e2 rfl ?_
  refine px_ld rfl rfl rfl rfl rfl ?_
  obtain ⟨t4, h0, h⟩ := xs_some h
  obtain ⟨fs, e1, e2⟩ := xgR_some h0
  refine px_get rfl e1 e2 rfl ?_
  obtain ⟨t5, h0, h⟩ := xs_some h
  obtain ⟨fs, e1, e2⟩ := xgR_some h0
  refine px_get rfl e1 e2 rfl ?_
  refine px_ic (k := 0) rfl rfl rfl ?_
  refine px_ld rfl rfl rfl rfl rfl ?_
  obtain ⟨t6, h0, h⟩ := xs_some h
  obtain ⟨fs, e1, e2⟩ := xgR_some h0
  refine px_get rfl e1 e2 rfl ?_
  obtain ⟨t7, h0, h⟩ := xs_some h
  obtain ⟨fs, e1, e2⟩ := xgI_some h0
  refine px_get rfl e1 e2 rfl ?_
  obtain ⟨fs, h0, h⟩ := xs_some h
  have e1 := xo_some h0
  obtain ⟨u0, ph8, h0, h⟩ := xb_some h
  refine px_cV3 rfl rfl e1 rfl rfl rfl rfl rfl rfl rfl (r_Row_copy h0 :) (fun _ _ q => nomatch q.2) (fun r ph' q => ?_)
  obtain ⟨rfl, q⟩ := q
  cases q
  refine px_ld rfl rfl rfl rfl rfl ?_
  obtain ⟨t9, h0, h⟩ := xs_some h
  obtain ⟨fs, e1, e2⟩ := xgR_some h0
  refine px_get rfl e1 e2 rfl ?_
  obtain ⟨t10, h0, h⟩ := xs_some h
  obtain ⟨fs, e1, e2⟩ := xgI_some h0
  refine px_get rfl e1 e2 rfl ?_
  refine px_gets rfl rfl ?_
  obtain ⟨t11, h0, h⟩ := xs_some h
  obtain ⟨e0, e3⟩ := xkl_some h0
  subst e3
  refine px_clen rfl e0 rfl ?_
  refine px_iclt rfl rfl rfl (fun hc => ?_) (fun hc => ?_)
  · replace h := (if_pos hc).symm.trans h
    exact (r_H_readFile_64 h :)
  · replace h := (if_neg hc).symm.trans h
    refine px_ld rfl rfl rfl rfl rfl ?_
    obtain ⟨t12, h0, h⟩ := xs_some h
    obtain ⟨fs, e1, e2⟩ := xgR_some h0
    refine px_get rfl e1 e2 rfl ?_
    refine px_gets rfl rfl ?_
    obtain ⟨fs, h0, h⟩ := xs_some h
    have e1 := xo_some h0
    obtain ⟨t13, ph14, h0, h⟩ := xb_some h
    refine px_cV1 rfl rfl e1 rfl rfl rfl rfl rfl rfl rfl (r_Row_begins h0 :) (fun _ _ q => nomatch q.2) (fun r ph' q => ?_)
    obtain ⟨rfl, q⟩ := q
    cases q
    refine px_ifeq rfl rfl rfl (fun hc => ?_) (fun hc => ?_)
    · replace h := (if_pos hc).symm.trans h
      exact (r_H_readFile_64 h :)
    · replace h := (if_neg hc).symm.trans h
      refine px_ld rfl rfl rfl rfl rfl ?_
      refine px_ld rfl rfl rfl rfl rfl ?_
      refine px_ld rfl rfl rfl rfl rfl ?_
      obtain ⟨fs, h0, h⟩ := xs_some h
      have e1 := xo_some h0
      obtain ⟨t15, ph16, h0, h⟩ := xb_some h
      refine px_cV2 rfl rfl e1 rfl rfl rfl rfl rfl rfl rfl (r_H_readArchive h0 :) (fun _ _ q => nomatch q.2) (fun r ph' q => ?_)
      obtain ⟨rfl, q⟩ := q
      cases q
      cases h
      exact px_iret rfl (Or.inl rfl) rfl ⟨rfl, rfl⟩
def f_H_clearFile_31 (F : Nat) (c : px_CT) (a0 : Nat) (a1 : Int32) (ph : px_H) : Option (Unit × px_H) :=
  (xgR ph 0 3 a0).bind fun t1 =>
  (xgR ph 0 5 a0).bind fun t2 =>
  (xaI ph 1 t2 a1).bind fun t3 =>
  (xpI ph 10 1 t1 t3).bind fun ph4 =>
  some ((), ph4)
theorem r_H_clearFile_31 {l : Launch} {g : px_G} {d F : Nat} {a0 : Nat} {a1 : Int32} {ph : px_H} {r : Unit} {ph' : px_H} (h : f_H_clearFile_31 F (px_ct g) a0 a1 ph = some (r, ph')) : PW l g (d + 1) m_H_clearFile 31 [.ref a0, .int a1, px_u] [] ph (px_qV r ph') := by
  unfold f_H_clearFile_31 at h
  refine px_ld rfl rfl rfl rfl rfl ?_
  obtain ⟨t1, h0, h⟩ := xs_some h
  obtain ⟨fs, e1, e2⟩ := xgR_some h0
  refine px_get rfl e1 e2 rfl ?_
  refine px_ld rfl rfl rfl rfl rfl ?_
  obtain ⟨t2, h0, h⟩ := xs_some h
  obtain ⟨fs, e1, e2⟩ := xgR_some h0
  refine px_get rfl e1 e2 rfl ?_
  refine px_ld rfl rfl rfl rfl rfl ?_
  obtain ⟨t3, h0, h⟩ := xs_some h
  obtain ⟨N, f, e1, e2, e3⟩ := xaI_some h0
  subst e3
  refine px_iald rfl e1 rfl e2 rfl ?_
  obtain ⟨ph4, h0, h⟩ := xs_some h
  obtain ⟨fs, e1, e2, e3⟩ := xpI_some h0
  subst e3
  refine px_put rfl e1 e2 trivial rfl ?_
  cases h
  exact px_vret rfl rfl rfl ⟨rfl, rfl⟩
def f_H_clearFile_2 (F : Nat) (c : px_CT) : Nat → Nat → Int32 → Int32 → px_H → Option (Unit × px_H)
  | 0, _, _, _, _ => none
  | n + 1, a0, a1, a2, ph =>
    if (nI 8) ≤ a2 then
      f_H_clearFile_31 F c a0 a1 ph
    else
      (xgR ph 0 4 a0).bind fun t1 =>
      (xaN ph 4 t1 ((a1 * (nI 8)) + a2)).bind fun t2 =>
      (t2).bind fun p3 =>
      (xo ph 7 p3).bind fun _ =>
      xb (f_ObjectFile_open F c p3 (nI 0) (nI 0) (nI 0) ph) fun _ ph4 =>
      f_H_clearFile_2 F c n a0 a1 (a2 + nI 1) ph4
theorem r_H_clearFile_2 {l : Launch} {g : px_G} {d F : Nat} : ∀ (n : Nat) {a0 : Nat} {a1 : Int32} {a2 : Int32} {ph : px_H} {r : Unit} {ph' : px_H}, f_H_clearFile_2 F (px_ct g) n a0 a1 a2 ph = some (r, ph') → PW l g (d + 1) m_H_clearFile 2 [.ref a0, .int a1, .int a2] [] ph (px_qV r ph') := by
  intro n
  induction n with
  | zero => intro _ _ _ _ _ _ h; cases h
  | succ n ih =>
    intro a0 a1 a2 ph r ph' h
    unfold f_H_clearFile_2 at h
    refine px_ld rfl rfl rfl rfl rfl ?_
    refine px_ic (k := 8) rfl rfl rfl ?_
    refine px_icge rfl rfl rfl (fun hc => ?_) (fun hc => ?_)
    · replace h := (if_pos hc).symm.trans h
      refine px_forget (n := 2) (lv' := [_, _, _]) rfl ?_
      exact (r_H_clearFile_31 h :)
    · replace h := (if_neg hc).symm.trans h
      refine px_ld rfl rfl rfl rfl rfl ?_
      obtain ⟨t1, h0, h⟩ := xs_some h
      obtain ⟨fs, e1, e2⟩ := xgR_some h0
      refine px_get rfl e1 e2 rfl ?_
      refine px_ld rfl rfl rfl rfl rfl ?_
      refine px_ic (k := 8) rfl rfl rfl ?_
      refine px_alu rfl rfl rfl ?_
      refine px_ld rfl rfl rfl rfl rfl ?_
      refine px_alu rfl rfl rfl ?_
      obtain ⟨t2, h0, h⟩ := xs_some h
      obtain ⟨N, f, e1, e2, e3⟩ := xaN_some h0
      refine px_aaldO rfl e1 rfl e2 e3 rfl ?_
      refine px_ic (k := 0) rfl rfl rfl ?_
      refine px_ic (k := 0) rfl rfl rfl ?_
      refine px_ic (k := 0) rfl rfl rfl ?_
      obtain ⟨p3, h0, h⟩ := xs_some h
      revert h
      subst h0
      intro h
      obtain ⟨fs, h0, h⟩ := xs_some h
      have e1 := xo_some h0
      obtain ⟨u0, ph4, h0, h⟩ := xb_some h
      refine px_cV3 rfl rfl e1 rfl rfl rfl rfl rfl rfl rfl (r_ObjectFile_open h0 :) (fun _ _ q => nomatch q.2) (fun r ph' q => ?_)
      obtain ⟨rfl, q⟩ := q
      cases q
      refine px_iinc (lv' := [_, _, _]) rfl rfl rfl rfl rfl rfl ?_
      refine px_goto rfl rfl rfl ?_
      exact (ih h :)
def f_H_clearFile (F : Nat) (c : px_CT) (a0 : Nat) (a1 : Int32) (ph : px_H) : Option (Unit × px_H) :=
  f_H_clearFile_2 F c F a0 a1 (nI 0) ph
theorem r_H_clearFile {l : Launch} {g : px_G} {d F : Nat} {a0 : Nat} {a1 : Int32} {ph : px_H} {r : Unit} {ph' : px_H} (h : f_H_clearFile F (px_ct g) a0 a1 ph = some (r, ph')) : PW l g (d + 1) m_H_clearFile 0 [.ref a0, .int a1, px_u] [] ph (px_qV r ph') := by
  unfold f_H_clearFile at h
  refine px_ic (k := 0) rfl rfl rfl ?_
  refine px_st (lv' := [_, _, _]) rfl rfl rfl rfl rfl rfl rfl ?_
  exact (r_H_clearFile_2 _ h :)
def f_H_add_79 (F : Nat) (c : px_CT) (a1 : Int32) (ph : px_H) : Option (Int32 × px_H) :=
  some (a1, ph)
theorem r_H_add_79 {l : Launch} {g : px_G} {d F : Nat} {a1 : Int32} {ph : px_H} {r : Int32} {ph' : px_H} (h : f_H_add_79 F (px_ct g) a1 ph = some (r, ph')) : PW l g (d + 7) m_H_add 79 [px_u, .int a1] [] ph (px_qI r ph') := by
  unfold f_H_add_79 at h
  refine px_ld rfl rfl rfl rfl rfl ?_
  cases h
  exact px_iret rfl (Or.inl rfl) rfl ⟨rfl, rfl⟩
def f_H_add (F : Nat) (c : px_CT) (a0 : Nat) (ph : px_H) : Option (Int32 × px_H) :=
  (xgI ph 0 6 a0).bind fun t1 =>
  if t1 < (nI 8) then
    (xgI ph 0 6 a0).bind fun t2 =>
    (xo ph 0 a0).bind fun _ =>
    xb (f_H_readFile F c a0 (t2 * (nI 8)) ph) fun t3 ph4 =>
    (xgR ph4 0 0 a0).bind fun t5 =>
    (xo ph4 10 t5).bind fun _ =>
    xb (f_Row_clear F c t5 ph4) fun _ ph6 =>
    if t3 = 0 then
      (xgI ph6 0 6 a0).bind fun t9 =>
      (xpI ph6 0 6 a0 (t9 + (nI 1))).bind fun ph10 =>
      (xgR ph10 0 5 a0).bind fun t11 =>
      (xgI ph10 0 6 a0).bind fun t12 =>
      (xgR ph10 0 3 a0).bind fun t13 =>
      (xgI ph10 10 1 t13).bind fun t14 =>
      (xsI ph10 1 t11 t12 t14).bind fun ph15 =>
      f_H_add_79 F c t3 ph15
    else
      (xgI ph6 0 6 a0).bind fun t7 =>
      (xo ph6 0 a0).bind fun _ =>
      xb (f_H_clearFile F c a0 t7 ph6) fun _ ph8 =>
      f_H_add_79 F c t3 ph8
  else
    none
theorem r_H_add {l : Launch} {g : px_G} {d F : Nat} {a0 : Nat} {ph : px_H} {r : Int32} {ph' : px_H} (h : f_H_add F (px_ct g) a0 ph = some (r, ph')) : PW l g (d + 7) m_H_add 0 [.ref a0, px_u] [] ph (px_qI r ph') := by
  unfold f_H_add at h
  refine px_ld rfl rfl rfl rfl rfl ?_
  obtain ⟨t1, h0, h⟩ := xs_some h
  obtain ⟨fs, e1, e2⟩ := xgI_some h0
  refine px_get rfl e1 e2 rfl ?_
  refine px_ic (k := 8) rfl rfl rfl ?_
  refine px_iclt rfl rfl rfl (fun hc => ?_) (fun hc => ?_)
  · replace h := (if_pos hc).symm.trans h
    refine px_ld rfl rfl rfl rfl rfl ?_
    refine px_ld rfl rfl rfl rfl rfl ?_
    obtain ⟨t2, h0, h⟩ := xs_some h
    obtain ⟨fs, e1, e2⟩ := xgI_some h0
    refine px_get rfl e1 e2 rfl ?_
    refine px_ic (k := 8) rfl rfl rfl ?_
    refine px_alu rfl rfl rfl ?_
    obtain ⟨fs, h0, h⟩ := xs_some h
    have e1 := xo_some h0
    obtain ⟨t3, ph4, h0, h⟩ := xb_some h
    refine px_cV1 rfl rfl e1 rfl rfl rfl rfl rfl rfl rfl (r_H_readFile h0 :) (fun _ _ q => nomatch q.2) (fun r ph' q => ?_)
    obtain ⟨rfl, q⟩ := q
    cases q
    refine px_st (lv' := [_, _]) rfl rfl rfl rfl rfl rfl rfl ?_
    refine px_ld rfl rfl rfl rfl rfl ?_
    obtain ⟨t5, h0, h⟩ := xs_some h
    obtain ⟨fs, e1, e2⟩ := xgR_some h0
    refine px_get rfl e1 e2 rfl ?_
    obtain ⟨fs, h0, h⟩ := xs_some h
    have e1 := xo_some h0
    obtain ⟨u0, ph6, h0, h⟩ := xb_some h
    refine px_cV0 rfl rfl e1 rfl rfl rfl rfl rfl rfl rfl (r_Row_clear h0 :) (fun _ _ q => nomatch q.2) (fun r ph' q => ?_)
    obtain ⟨rfl, q⟩ := q
    cases q
    refine px_ld rfl rfl rfl rfl rfl ?_
    refine px_ifne rfl rfl rfl (fun hc => ?_) (fun hc => ?_)
    · replace h := (if_neg hc).symm.trans h
      refine px_ld rfl rfl rfl rfl rfl ?_
      refine px_ld rfl rfl rfl rfl rfl ?_
      obtain ⟨t7, h0, h⟩ := xs_some h
      obtain ⟨fs, e1, e2⟩ := xgI_some h0
      refine px_get rfl e1 e2 rfl ?_
      obtain ⟨fs, h0, h⟩ := xs_some h
      have e1 := xo_some h0
      obtain ⟨u0, ph8, h0, h⟩ := xb_some h
      refine px_cV1 rfl rfl e1 rfl rfl rfl rfl rfl rfl rfl (r_H_clearFile h0 :) (fun _ _ q => nomatch q.2) (fun r ph' q => ?_)
      obtain ⟨rfl, q⟩ := q
      cases q
      refine px_forget (n := 0) (lv' := [_, _]) rfl ?_
      exact (r_H_add_79 h :)
    · replace h := (if_pos hc).symm.trans h
      refine px_ld rfl rfl rfl rfl rfl ?_
      refine px_alu rfl rfl rfl ?_
      obtain ⟨t9, h0, h⟩ := xs_some h
      obtain ⟨fs, e1, e2⟩ := xgI_some h0
      refine px_get rfl e1 e2 rfl ?_
      refine px_ic (k := 1) rfl rfl rfl ?_
      refine px_alu rfl rfl rfl ?_
      obtain ⟨ph10, h0, h⟩ := xs_some h
      obtain ⟨fs, e1, e2, e3⟩ := xpI_some h0
      subst e3
      refine px_put rfl e1 e2 trivial rfl ?_
      refine px_ld rfl rfl rfl rfl rfl ?_
      obtain ⟨t11, h0, h⟩ := xs_some h
      obtain ⟨fs, e1, e2⟩ := xgR_some h0
      refine px_get rfl e1 e2 rfl ?_
      refine px_ld rfl rfl rfl rfl rfl ?_
      obtain ⟨t12, h0, h⟩ := xs_some h
      obtain ⟨fs, e1, e2⟩ := xgI_some h0
      refine px_get rfl e1 e2 rfl ?_
      refine px_ld rfl rfl rfl rfl rfl ?_
      obtain ⟨t13, h0, h⟩ := xs_some h
      obtain ⟨fs, e1, e2⟩ := xgR_some h0
      refine px_get rfl e1 e2 rfl ?_
      obtain ⟨t14, h0, h⟩ := xs_some h
      obtain ⟨fs, e1, e2⟩ := xgI_some h0
      refine px_get rfl e1 e2 rfl ?_
      obtain ⟨ph15, h0, h⟩ := xs_some h
      obtain ⟨N, f, e1, e2, e3⟩ := xsI_some h0
      subst e3
      refine px_iast rfl e1 rfl e2 rfl ?_
      refine px_goto rfl rfl rfl ?_
      refine px_forget (n := 0) (lv' := [_, _]) rfl ?_
      exact (r_H_add_79 h :)
  · replace h := (if_neg hc).symm.trans h
    cases h
def f_H_drop (F : Nat) (c : px_CT) (a0 : Nat) (ph : px_H) : Option (Int32 × px_H) :=
  (xgI ph 0 6 a0).bind fun t1 =>
  if 0 < t1 then
    (xgI ph 0 6 a0).bind fun t2 =>
    (xpI ph 0 6 a0 (t2 - (nI 1))).bind fun ph3 =>
    (xgI ph3 0 6 a0).bind fun t4 =>
    (xo ph3 0 a0).bind fun _ =>
    xb (f_H_clearFile F c a0 t4 ph3) fun _ ph5 =>
    (xgI ph5 0 6 a0).bind fun t6 =>
    some (t6, ph5)
  else
    none
theorem r_H_drop {l : Launch} {g : px_G} {d F : Nat} {a0 : Nat} {ph : px_H} {r : Int32} {ph' : px_H} (h : f_H_drop F (px_ct g) a0 ph = some (r, ph')) : PW l g (d + 2) m_H_drop 0 [.ref a0] [] ph (px_qI r ph') := by
  unfold f_H_drop at h
  refine px_ld rfl rfl rfl rfl rfl ?_
  obtain ⟨t1, h0, h⟩ := xs_some h
  obtain ⟨fs, e1, e2⟩ := xgI_some h0
  refine px_get rfl e1 e2 rfl ?_
  refine px_ifgt rfl rfl rfl (fun hc => ?_) (fun hc => ?_)
  · replace h := (if_pos hc).symm.trans h
    refine px_ld rfl rfl rfl rfl rfl ?_
    refine px_alu rfl rfl rfl ?_
    obtain ⟨t2, h0, h⟩ := xs_some h
    obtain ⟨fs, e1, e2⟩ := xgI_some h0
    refine px_get rfl e1 e2 rfl ?_
    refine px_ic (k := 1) rfl rfl rfl ?_
    refine px_alu rfl rfl rfl ?_
    obtain ⟨ph3, h0, h⟩ := xs_some h
    obtain ⟨fs, e1, e2, e3⟩ := xpI_some h0
    subst e3
    refine px_put rfl e1 e2 trivial rfl ?_
    refine px_ld rfl rfl rfl rfl rfl ?_
    refine px_ld rfl rfl rfl rfl rfl ?_
    obtain ⟨t4, h0, h⟩ := xs_some h
    obtain ⟨fs, e1, e2⟩ := xgI_some h0
    refine px_get rfl e1 e2 rfl ?_
    obtain ⟨fs, h0, h⟩ := xs_some h
    have e1 := xo_some h0
    obtain ⟨u0, ph5, h0, h⟩ := xb_some h
    refine px_cV1 rfl rfl e1 rfl rfl rfl rfl rfl rfl rfl (r_H_clearFile h0 :) (fun _ _ q => nomatch q.2) (fun r ph' q => ?_)
    obtain ⟨rfl, q⟩ := q
    cases q
    refine px_ld rfl rfl rfl rfl rfl ?_
    obtain ⟨t6, h0, h⟩ := xs_some h
    obtain ⟨fs, e1, e2⟩ := xgI_some h0
    refine px_get rfl e1 e2 rfl ?_
    cases h
    exact px_iret rfl (Or.inl rfl) rfl ⟨rfl, rfl⟩
  · replace h := (if_neg hc).symm.trans h
    cases h
def f_H_readTapeName_86 (F : Nat) (c : px_CT) (a0 : Nat) (a1 : Int32) (ph : px_H) : Option (Int32 × px_H) :=
  (xgR ph 0 0 a0).bind fun t1 =>
  (xo ph 10 t1).bind fun _ =>
  xb (f_Row_clear F c t1 ph) fun _ ph2 =>
  xz a1 ph2
theorem r_H_readTapeName_86 {l : Launch} {g : px_G} {d F : Nat} {a0 : Nat} {a1 : Int32} {ph : px_H} {r : Int32} {ph' : px_H} (h : f_H_readTapeName_86 F (px_ct g) a0 a1 ph = some (r, ph')) : PW l g (d + 1) m_H_readTapeName 86 [.ref a0, .int a1, px_u, px_u] [] ph (px_qI r ph') := by
  unfold f_H_readTapeName_86 at h
  refine px_ld rfl rfl rfl rfl rfl ?_
  obtain ⟨t1, h0, h⟩ := xs_some h
  obtain ⟨fs, e1, e2⟩ := xgR_some h0
  refine px_get rfl e1 e2 rfl ?_
  obtain ⟨fs, h0, h⟩ := xs_some h
  have e1 := xo_some h0
  obtain ⟨u0, ph2, h0, h⟩ := xb_some h
  refine px_cV0 rfl rfl e1 rfl rfl rfl rfl rfl rfl rfl (r_Row_clear h0 :) (fun _ _ q => nomatch q.2) (fun r ph' q => ?_)
  obtain ⟨rfl, q⟩ := q
  cases q
  refine px_ld rfl rfl rfl rfl rfl ?_
  obtain ⟨e0, e1, e2⟩ := xz_some h
  subst e1 e2
  exact px_iret rfl (Or.inr ⟨rfl, e0⟩) rfl ⟨rfl, rfl⟩
def f_H_readTapeName_79 (F : Nat) (c : px_CT) (k38 : Nat → Int32 → Int32 → px_H → Option (Int32 × px_H)) (a0 : Nat) (a2 : Int32) (s0 : Int32) (ph : px_H) : Option (Int32 × px_H) :=
  k38 a0 s0 (a2 + nI 1) ph
theorem r_H_readTapeName_79 {l : Launch} {g : px_G} {d F : Nat} {k38 : Nat → Int32 → Int32 → px_H → Option (Int32 × px_H)} (hk38 : ∀ {a0 : Nat} {a1 : Int32} {a2 : Int32} {ph : px_H} {r : Int32} {ph' : px_H}, k38 a0 a1 a2 ph = some (r, ph') → PW l g (d + 1) m_H_readTapeName 38 [.ref a0, .int a1, .int a2, px_u] [] ph (px_qI r ph')) {a0 : Nat} {a2 : Int32} {s0 : Int32} {ph : px_H} {r : Int32} {ph' : px_H} (h : f_H_readTapeName_79 F (px_ct g) k38 a0 a2 s0 ph = some (r, ph')) : PW l g (d + 1) m_H_readTapeName 79 [.ref a0, px_u, .int a2, px_u] [.int s0] ph (px_qI r ph') := by
  unfold f_H_readTapeName_79 at h
  refine px_st (lv' := [_, _, _, _]) rfl rfl rfl rfl rfl rfl rfl ?_
  refine px_iinc (lv' := [_, _, _, _]) rfl rfl rfl rfl rfl rfl ?_
  refine px_goto rfl rfl rfl ?_
  exact (hk38 h :)
def f_H_readTapeName_38 (F : Nat) (c : px_CT) : Nat → Nat → Int32 → Int32 → px_H → Option (Int32 × px_H)
  | 0, _, _, _, _ => none
  | n + 1, a0, a1, a2, ph =>
    if a1 = 0 then
      f_H_readTapeName_86 F c a0 a1 ph
    else
      (xgR ph 0 0 a0).bind fun t1 =>
      (xgI ph 10 1 t1).bind fun t2 =>
      if t2 ≤ a2 then
        f_H_readTapeName_86 F c a0 a1 ph
      else
        (xgR ph 0 0 a0).bind fun t3 =>
        (xo ph 10 t3).bind fun _ =>
        xb (f_Row_at F c t3 a2 ph) fun t4 ph5 =>
        (xgR ph5 0 10 a0).bind fun t6 =>
        (xo ph5 5 t6).bind fun _ =>
        xb (f_Name_append F c t6 t4 ph5) fun _ ph7 =>
        if t4 = 0 then
          f_H_readTapeName_79 F c (f_H_readTapeName_38 F c n) a0 a2 (nI 0) ph7
        else
          f_H_readTapeName_79 F c (f_H_readTapeName_38 F c n) a0 a2 (nI 1) ph7
theorem r_H_readTapeName_38 {l : Launch} {g : px_G} {d F : Nat} : ∀ (n : Nat) {a0 : Nat} {a1 : Int32} {a2 : Int32} {ph : px_H} {r : Int32} {ph' : px_H}, f_H_readTapeName_38 F (px_ct g) n a0 a1 a2 ph = some (r, ph') → PW l g (d + 1) m_H_readTapeName 38 [.ref a0, .int a1, .int a2, px_u] [] ph (px_qI r ph') := by
  intro n
  induction n with
  | zero => intro _ _ _ _ _ _ h; cases h
  | succ n ih =>
    intro a0 a1 a2 ph r ph' h
    unfold f_H_readTapeName_38 at h
    refine px_ld rfl rfl rfl rfl rfl ?_
    refine px_ifeq rfl rfl rfl (fun hc => ?_) (fun hc => ?_)
    · replace h := (if_pos hc).symm.trans h
      refine px_forget (n := 2) (lv' := [_, _, _, _]) rfl ?_
      exact (r_H_readTapeName_86 h :)
    · replace h := (if_neg hc).symm.trans h
      refine px_ld rfl rfl rfl rfl rfl ?_
      refine px_ld rfl rfl rfl rfl rfl ?_
      obtain ⟨t1, h0, h⟩ := xs_some h
      obtain ⟨fs, e1, e2⟩ := xgR_some h0
      refine px_get rfl e1 e2 rfl ?_
      obtain ⟨t2, h0, h⟩ := xs_some h
      obtain ⟨fs, e1, e2⟩ := xgI_some h0
      refine px_get rfl e1 e2 rfl ?_
      refine px_icge rfl rfl rfl (fun hc => ?_) (fun hc => ?_)
      · replace h := (if_pos hc).symm.trans h
        refine px_forget (n := 2) (lv' := [_, _, _, _]) rfl ?_
        exact (r_H_readTapeName_86 h :)
      · replace h := (if_neg hc).symm.trans h
        refine px_ld rfl rfl rfl rfl rfl ?_
        obtain ⟨t3, h0, h⟩ := xs_some h
        obtain ⟨fs, e1, e2⟩ := xgR_some h0
        refine px_get rfl e1 e2 rfl ?_
        refine px_ld rfl rfl rfl rfl rfl ?_
        obtain ⟨fs, h0, h⟩ := xs_some h
        have e1 := xo_some h0
        obtain ⟨t4, ph5, h0, h⟩ := xb_some h
        refine px_cV1 rfl rfl e1 rfl rfl rfl rfl rfl rfl rfl (r_Row_at h0 :) (fun _ _ q => nomatch q.2) (fun r ph' q => ?_)
        obtain ⟨rfl, q⟩ := q
        cases q
        refine px_st (lv' := [_, _, _, _]) rfl rfl rfl rfl rfl rfl rfl ?_
        refine px_ld rfl rfl rfl rfl rfl ?_
        obtain ⟨t6, h0, h⟩ := xs_some h
        obtain ⟨fs, e1, e2⟩ := xgR_some h0
        refine px_get rfl e1 e2 rfl ?_
        refine px_ld rfl rfl rfl rfl rfl ?_
        obtain ⟨fs, h0, h⟩ := xs_some h
        have e1 := xo_some h0
        obtain ⟨u0, ph7, h0, h⟩ := xb_some h
        refine px_cV1 rfl rfl e1 rfl rfl rfl rfl rfl rfl rfl (r_Name_append h0 :) (fun _ _ q => nomatch q.2) (fun r ph' q => ?_)
        obtain ⟨rfl, q⟩ := q
        cases q
        refine px_ld rfl rfl rfl rfl rfl ?_
        refine px_ifeq rfl rfl rfl (fun hc => ?_) (fun hc => ?_)
        · replace h := (if_pos hc).symm.trans h
          refine px_ic (k := 0) rfl rfl rfl ?_
          refine px_forget (n := 1) (lv' := [_, _, _, _]) rfl ?_
          refine px_forget (n := 3) (lv' := [_, _, _, _]) rfl ?_
          exact (r_H_readTapeName_79 @ih h :)
        · replace h := (if_neg hc).symm.trans h
          refine px_ic (k := 1) rfl rfl rfl ?_
          refine px_goto rfl rfl rfl ?_
          refine px_forget (n := 1) (lv' := [_, _, _, _]) rfl ?_
          refine px_forget (n := 3) (lv' := [_, _, _, _]) rfl ?_
          exact (r_H_readTapeName_79 @ih h :)
def f_H_readTapeName_28 (F : Nat) (c : px_CT) (a0 : Nat) (s0 : Int32) (ph : px_H) : Option (Int32 × px_H) :=
  (xgR ph 0 10 a0).bind fun t1 =>
  (xo ph 5 t1).bind fun _ =>
  xb (f_Name_wipe F c t1 ph) fun _ ph2 =>
  f_H_readTapeName_38 F c F a0 s0 (nI 0) ph2
theorem r_H_readTapeName_28 {l : Launch} {g : px_G} {d F : Nat} {a0 : Nat} {s0 : Int32} {ph : px_H} {r : Int32} {ph' : px_H} (h : f_H_readTapeName_28 F (px_ct g) a0 s0 ph = some (r, ph')) : PW l g (d + 1) m_H_readTapeName 28 [.ref a0, px_u, px_u, px_u] [.int s0] ph (px_qI r ph') := by
  unfold f_H_readTapeName_28 at h
  refine px_st (lv' := [_, _, _, _]) rfl rfl rfl rfl rfl rfl rfl ?_
  refine px_ld rfl rfl rfl rfl rfl ?_
  obtain ⟨t1, h0, h⟩ := xs_some h
  obtain ⟨fs, e1, e2⟩ := xgR_some h0
  refine px_get rfl e1 e2 rfl ?_
  obtain ⟨fs, h0, h⟩ := xs_some h
  have e1 := xo_some h0
  obtain ⟨u0, ph2, h0, h⟩ := xb_some h
  refine px_cV0 rfl rfl e1 rfl rfl rfl rfl rfl rfl rfl (r_Name_wipe h0 :) (fun _ _ q => nomatch q.2) (fun r ph' q => ?_)
  obtain ⟨rfl, q⟩ := q
  cases q
  refine px_ic (k := 0) rfl rfl rfl ?_
  refine px_st (lv' := [_, _, _, _]) rfl rfl rfl rfl rfl rfl rfl ?_
  exact (r_H_readTapeName_38 _ h :)
def f_H_readTapeName_27 (F : Nat) (c : px_CT) (a0 : Nat) (ph : px_H) : Option (Int32 × px_H) :=
  f_H_readTapeName_28 F c a0 (nI 0) ph
theorem r_H_readTapeName_27 {l : Launch} {g : px_G} {d F : Nat} {a0 : Nat} {ph : px_H} {r : Int32} {ph' : px_H} (h : f_H_readTapeName_27 F (px_ct g) a0 ph = some (r, ph')) : PW l g (d + 1) m_H_readTapeName 27 [.ref a0, px_u, px_u, px_u] [] ph (px_qI r ph') := by
  unfold f_H_readTapeName_27 at h
  refine px_ic (k := 0) rfl rfl rfl ?_
  exact (r_H_readTapeName_28 h :)
def f_H_readTapeName (F : Nat) (c : px_CT) (a0 : Nat) (ph : px_H) : Option (Int32 × px_H) :=
  (xgR ph 0 0 a0).bind fun t1 =>
  (xgI ph 10 1 t1).bind fun t2 =>
  if t2 < (nI 1) then
    f_H_readTapeName_27 F c a0 ph
  else
    (xgR ph 0 0 a0).bind fun t3 =>
    (xgI ph 10 1 t3).bind fun t4 =>
    if (nI 20) < t4 then
      f_H_readTapeName_27 F c a0 ph
    else
      f_H_readTapeName_28 F c a0 (nI 1) ph
theorem r_H_readTapeName {l : Launch} {g : px_G} {d F : Nat} {a0 : Nat} {ph : px_H} {r : Int32} {ph' : px_H} (h : f_H_readTapeName F (px_ct g) a0 ph = some (r, ph')) : PW l g (d + 1) m_H_readTapeName 0 [.ref a0, px_u, px_u, px_u] [] ph (px_qI r ph') := by
  unfold f_H_readTapeName at h
  refine px_ld rfl rfl rfl rfl rfl ?_
  obtain ⟨t1, h0, h⟩ := xs_some h
  obtain ⟨fs, e1, e2⟩ := xgR_some h0
  refine px_get rfl e1 e2 rfl ?_
  obtain ⟨t2, h0, h⟩ := xs_some h
  obtain ⟨fs, e1, e2⟩ := xgI_some h0
  refine px_get rfl e1 e2 rfl ?_
  refine px_ic (k := 1) rfl rfl rfl ?_
  refine px_iclt rfl rfl rfl (fun hc => ?_) (fun hc => ?_)
  · replace h := (if_pos hc).symm.trans h
    exact (r_H_readTapeName_27 h :)
  · replace h := (if_neg hc).symm.trans h
    refine px_ld rfl rfl rfl rfl rfl ?_
    obtain ⟨t3, h0, h⟩ := xs_some h
    obtain ⟨fs, e1, e2⟩ := xgR_some h0
    refine px_get rfl e1 e2 rfl ?_
    obtain ⟨t4, h0, h⟩ := xs_some h
    obtain ⟨fs, e1, e2⟩ := xgI_some h0
    refine px_get rfl e1 e2 rfl ?_
    refine px_ic (k := 20) rfl rfl rfl ?_
    refine px_icgt rfl rfl rfl (fun hc => ?_) (fun hc => ?_)
    · replace h := (if_pos hc).symm.trans h
      exact (r_H_readTapeName_27 h :)
    · replace h := (if_neg hc).symm.trans h
      refine px_ic (k := 1) rfl rfl rfl ?_
      refine px_goto rfl rfl rfl ?_
      exact (r_H_readTapeName_28 h :)
def f_H_give_45 (F : Nat) (c : px_CT) (ph : px_H) : Option (Int32 × px_H) :=
  none
theorem r_H_give_45 {l : Launch} {g : px_G} {d F : Nat} {ph : px_H} {r : Int32} {ph' : px_H} (h : f_H_give_45 F (px_ct g) ph = some (r, ph')) : PW l g (d + 3) m_H_give 45 [px_u, px_u, px_u, px_u] [] ph (px_qI r ph') := by
  unfold f_H_give_45 at h
  cases h
def f_H_give (F : Nat) (c : px_CT) (a0 : Nat) (a1 : Int64) (ph : px_H) : Option (Int32 × px_H) :=
  (xo ph 0 a0).bind fun _ =>
  xb (f_H_readTapeName F c a0 ph) fun t1 ph2 =>
  if t1 = 0 then
    none
  else
    (xgR ph2 0 8 a0).bind fun t3 =>
    (xgR ph2 0 10 a0).bind fun t4 =>
    (xo ph2 6 t3).bind fun _ =>
    xb (f_Names_find F c t3 (some t4) ph2) fun t5 ph6 =>
    (match t5 with
      | none => (xgR ph6 0 8 a0).bind fun t8 =>
      (xgI ph6 6 2 t8).bind fun t9 =>
      if t9 < (nI 16) then
        (xgR ph6 0 8 a0).bind fun t10 =>
        (xgR ph6 0 10 a0).bind fun t11 =>
        (xo ph6 6 t10).bind fun _ =>
        xb (f_Names_enter F c t10 (some t11) ph6) fun t12 ph13 =>
        (t12).bind fun p14 =>
        (xpJ ph13 5 7 p14 a1).bind fun ph15 =>
        (xgR ph15 0 8 a0).bind fun t16 =>
        (xgI ph15 6 2 t16).bind fun t17 =>
        some (t17, ph15)
      else
        f_H_give_45 F c ph6
      | some p7 => f_H_give_45 F c ph6)
theorem r_H_give {l : Launch} {g : px_G} {d F : Nat} {a0 : Nat} {a1 : Int64} {ph : px_H} {r : Int32} {ph' : px_H} (h : f_H_give F (px_ct g) a0 a1 ph = some (r, ph')) : PW l g (d + 3) m_H_give 0 [.ref a0, .long a1, px_u, px_u] [] ph (px_qI r ph') := by
  unfold f_H_give at h
  refine px_ld rfl rfl rfl rfl rfl ?_
  obtain ⟨fs, h0, h⟩ := xs_some h
  have e1 := xo_some h0
  obtain ⟨t1, ph2, h0, h⟩ := xb_some h
  refine px_cV0 rfl rfl e1 rfl rfl rfl rfl rfl rfl rfl (r_H_readTapeName h0 :) (fun _ _ q => nomatch q.2) (fun r ph' q => ?_)
  obtain ⟨rfl, q⟩ := q
  cases q
  refine px_st (lv' := [_, _, _, _]) rfl rfl rfl rfl rfl rfl rfl ?_
  refine px_ld rfl rfl rfl rfl rfl ?_
  refine px_ifne rfl rfl rfl (fun hc => ?_) (fun hc => ?_)
  · replace h := (if_neg hc).symm.trans h
    refine px_ld rfl rfl rfl rfl rfl ?_
    obtain ⟨t3, h0, h⟩ := xs_some h
    obtain ⟨fs, e1, e2⟩ := xgR_some h0
    refine px_get rfl e1 e2 rfl ?_
    refine px_ld rfl rfl rfl rfl rfl ?_
    obtain ⟨t4, h0, h⟩ := xs_some h
    obtain ⟨fs, e1, e2⟩ := xgR_some h0
    refine px_get rfl e1 e2 rfl ?_
    obtain ⟨fs, h0, h⟩ := xs_some h
    have e1 := xo_some h0
    obtain ⟨t5, ph6, h0, h⟩ := xb_some h
    refine px_cV1 rfl rfl e1 rfl rfl rfl rfl rfl rfl rfl (r_Names_find h0 :) (fun _ _ q => nomatch q.2) (fun r ph' q => ?_)
    obtain ⟨rfl, q⟩ := q
    cases q
    cases t5 with
    | none =>
      refine px_ifnnN rfl rfl ?_
      refine px_ld rfl rfl rfl rfl rfl ?_
      obtain ⟨t8, h0, h⟩ := xs_some h
      obtain ⟨fs, e1, e2⟩ := xgR_some h0
      refine px_get rfl e1 e2 rfl ?_
      obtain ⟨t9, h0, h⟩ := xs_some h
      obtain ⟨fs, e1, e2⟩ := xgI_some h0
      refine px_get rfl e1 e2 rfl ?_
      refine px_ic (k := 16) rfl rfl rfl ?_
      refine px_iclt rfl rfl rfl (fun hc => ?_) (fun hc => ?_)
      · replace h := (if_pos hc).symm.trans h
        refine px_ld rfl rfl rfl rfl rfl ?_
        obtain ⟨t10, h0, h⟩ := xs_some h
        obtain ⟨fs, e1, e2⟩ := xgR_some h0
        refine px_get rfl e1 e2 rfl ?_
        refine px_ld rfl rfl rfl rfl rfl ?_
        obtain ⟨t11, h0, h⟩ := xs_some h
        obtain ⟨fs, e1, e2⟩ := xgR_some h0
        refine px_get rfl e1 e2 rfl ?_
        obtain ⟨fs, h0, h⟩ := xs_some h
        have e1 := xo_some h0
        obtain ⟨t12, ph13, h0, h⟩ := xb_some h
        refine px_cV1 rfl rfl e1 rfl rfl rfl rfl rfl rfl rfl (r_Names_enter h0 :) (fun _ _ q => nomatch q.2) (fun r ph' q => ?_)
        obtain ⟨rfl, q⟩ := q
        cases q
        refine px_ld rfl rfl rfl rfl rfl ?_
        obtain ⟨p14, h0, h⟩ := xs_some h
        revert h
        subst h0
        intro h
        obtain ⟨ph15, h0, h⟩ := xs_some h
        obtain ⟨fs, e1, e2, e3⟩ := xpJ_some h0
        subst e3
        refine px_put rfl e1 e2 trivial rfl ?_
        refine px_ld rfl rfl rfl rfl rfl ?_
        obtain ⟨t16, h0, h⟩ := xs_some h
        obtain ⟨fs, e1, e2⟩ := xgR_some h0
        refine px_get rfl e1 e2 rfl ?_
        obtain ⟨t17, h0, h⟩ := xs_some h
        obtain ⟨fs, e1, e2⟩ := xgI_some h0
        refine px_get rfl e1 e2 rfl ?_
        cases h
        exact px_iret rfl (Or.inl rfl) rfl ⟨rfl, rfl⟩
      · replace h := (if_neg hc).symm.trans h
        refine px_forget (n := 0) (lv' := [_, _, _, _]) rfl ?_
        refine px_forget (n := 1) (lv' := [_, _, _, _]) rfl ?_
        refine px_forget (n := 3) (lv' := [_, _, _, _]) rfl ?_
        exact (r_H_give_45 h :)
    | some p7 =>
      refine px_ifnnR rfl rfl rfl ?_
      refine px_forget (n := 0) (lv' := [_, _, _, _]) rfl ?_
      refine px_forget (n := 1) (lv' := [_, _, _, _]) rfl ?_
      refine px_forget (n := 3) (lv' := [_, _, _, _]) rfl ?_
      exact (r_H_give_45 h :)
  · replace h := (if_pos hc).symm.trans h
    cases h
def f_H_wish_45 (F : Nat) (c : px_CT) (ph : px_H) : Option (Int32 × px_H) :=
  none
theorem r_H_wish_45 {l : Launch} {g : px_G} {d F : Nat} {ph : px_H} {r : Int32} {ph' : px_H} (h : f_H_wish_45 F (px_ct g) ph = some (r, ph')) : PW l g (d + 3) m_H_wish 45 [px_u, px_u] [] ph (px_qI r ph') := by
  unfold f_H_wish_45 at h
  cases h
def f_H_wish (F : Nat) (c : px_CT) (a0 : Nat) (ph : px_H) : Option (Int32 × px_H) :=
  (xo ph 0 a0).bind fun _ =>
  xb (f_H_readTapeName F c a0 ph) fun t1 ph2 =>
  if t1 = 0 then
    none
  else
    (xgR ph2 0 9 a0).bind fun t3 =>
    (xgR ph2 0 10 a0).bind fun t4 =>
    (xo ph2 6 t3).bind fun _ =>
    xb (f_Names_find F c t3 (some t4) ph2) fun t5 ph6 =>
    (match t5 with
      | none => (xgR ph6 0 9 a0).bind fun t8 =>
      (xgI ph6 6 2 t8).bind fun t9 =>
      if t9 < (nI 16) then
        (xgR ph6 0 9 a0).bind fun t10 =>
        (xgR ph6 0 10 a0).bind fun t11 =>
        (xo ph6 6 t10).bind fun _ =>
        xb (f_Names_enter F c t10 (some t11) ph6) fun t12 ph13 =>
        (t12).bind fun p14 =>
        (xgR ph13 0 9 a0).bind fun t15 =>
        (xgI ph13 6 2 t15).bind fun t16 =>
        some (t16, ph13)
      else
        f_H_wish_45 F c ph6
      | some p7 => f_H_wish_45 F c ph6)
theorem r_H_wish {l : Launch} {g : px_G} {d F : Nat} {a0 : Nat} {ph : px_H} {r : Int32} {ph' : px_H} (h : f_H_wish F (px_ct g) a0 ph = some (r, ph')) : PW l g (d + 3) m_H_wish 0 [.ref a0, px_u] [] ph (px_qI r ph') := by
  unfold f_H_wish at h
  refine px_ld rfl rfl rfl rfl rfl ?_
  obtain ⟨fs, h0, h⟩ := xs_some h
  have e1 := xo_some h0
  obtain ⟨t1, ph2, h0, h⟩ := xb_some h
  refine px_cV0 rfl rfl e1 rfl rfl rfl rfl rfl rfl rfl (r_H_readTapeName h0 :) (fun _ _ q => nomatch q.2) (fun r ph' q => ?_)
  obtain ⟨rfl, q⟩ := q
  cases q
  refine px_st (lv' := [_, _]) rfl rfl rfl rfl rfl rfl rfl ?_
  refine px_ld rfl rfl rfl rfl rfl ?_
  refine px_ifne rfl rfl rfl (fun hc => ?_) (fun hc => ?_)
  · replace h := (if_neg hc).symm.trans h
    refine px_ld rfl rfl rfl rfl rfl ?_
    obtain ⟨t3, h0, h⟩ := xs_some h
    obtain ⟨fs, e1, e2⟩ := xgR_some h0
    refine px_get rfl e1 e2 rfl ?_
    refine px_ld rfl rfl rfl rfl rfl ?_
    obtain ⟨t4, h0, h⟩ := xs_some h
    obtain ⟨fs, e1, e2⟩ := xgR_some h0
    refine px_get rfl e1 e2 rfl ?_
    obtain ⟨fs, h0, h⟩ := xs_some h
    have e1 := xo_some h0
    obtain ⟨t5, ph6, h0, h⟩ := xb_some h
    refine px_cV1 rfl rfl e1 rfl rfl rfl rfl rfl rfl rfl (r_Names_find h0 :) (fun _ _ q => nomatch q.2) (fun r ph' q => ?_)
    obtain ⟨rfl, q⟩ := q
    cases q
    cases t5 with
    | none =>
      refine px_ifnnN rfl rfl ?_
      refine px_ld rfl rfl rfl rfl rfl ?_
      obtain ⟨t8, h0, h⟩ := xs_some h
      obtain ⟨fs, e1, e2⟩ := xgR_some h0
      refine px_get rfl e1 e2 rfl ?_
      obtain ⟨t9, h0, h⟩ := xs_some h
      obtain ⟨fs, e1, e2⟩ := xgI_some h0
      refine px_get rfl e1 e2 rfl ?_
      refine px_ic (k := 16) rfl rfl rfl ?_
      refine px_iclt rfl rfl rfl (fun hc => ?_) (fun hc => ?_)
      · replace h := (if_pos hc).symm.trans h
        refine px_ld rfl rfl rfl rfl rfl ?_
        obtain ⟨t10, h0, h⟩ := xs_some h
        obtain ⟨fs, e1, e2⟩ := xgR_some h0
        refine px_get rfl e1 e2 rfl ?_
        refine px_ld rfl rfl rfl rfl rfl ?_
        obtain ⟨t11, h0, h⟩ := xs_some h
        obtain ⟨fs, e1, e2⟩ := xgR_some h0
        refine px_get rfl e1 e2 rfl ?_
        obtain ⟨fs, h0, h⟩ := xs_some h
        have e1 := xo_some h0
        obtain ⟨t12, ph13, h0, h⟩ := xb_some h
        refine px_cV1 rfl rfl e1 rfl rfl rfl rfl rfl rfl rfl (r_Names_enter h0 :) (fun _ _ q => nomatch q.2) (fun r ph' q => ?_)
        obtain ⟨rfl, q⟩ := q
        cases q
        obtain ⟨p14, h0, h⟩ := xs_some h
        revert h
        subst h0
        intro h
        refine px_alu rfl rfl rfl ?_
        refine px_ld rfl rfl rfl rfl rfl ?_
        obtain ⟨t15, h0, h⟩ := xs_some h
        obtain ⟨fs, e1, e2⟩ := xgR_some h0
        refine px_get rfl e1 e2 rfl ?_
        obtain ⟨t16, h0, h⟩ := xs_some h
        obtain ⟨fs, e1, e2⟩ := xgI_some h0
        refine px_get rfl e1 e2 rfl ?_
        cases h
        exact px_iret rfl (Or.inl rfl) rfl ⟨rfl, rfl⟩
      · replace h := (if_neg hc).symm.trans h
        refine px_forget (n := 0) (lv' := [_, _]) rfl ?_
        refine px_forget (n := 1) (lv' := [_, _]) rfl ?_
        exact (r_H_wish_45 h :)
    | some p7 =>
      refine px_ifnnR rfl rfl rfl ?_
      refine px_forget (n := 0) (lv' := [_, _]) rfl ?_
      refine px_forget (n := 1) (lv' := [_, _]) rfl ?_
      exact (r_H_wish_45 h :)
  · replace h := (if_pos hc).symm.trans h
    cases h
def f_Scribe_rowOf_144 (F : Nat) (c : px_CT) (a5 : Int32) (ph : px_H) : Option (Int32 × px_H) :=
  some (a5, ph)
theorem r_Scribe_rowOf_144 {l : Launch} {g : px_G} {d F : Nat} {a5 : Int32} {ph : px_H} {r : Int32} {ph' : px_H} (h : f_Scribe_rowOf_144 F (px_ct g) a5 ph = some (r, ph')) : PW l g (d + 1) m_Scribe_rowOf 144 [px_u, px_u, px_u, px_u, px_u, .int a5, px_u] [] ph (px_qI r ph') := by
  unfold f_Scribe_rowOf_144 at h
  refine px_ld rfl rfl rfl rfl rfl ?_
  cases h
  exact px_iret rfl (Or.inl rfl) rfl ⟨rfl, rfl⟩
def f_Scribe_rowOf_135 (F : Nat) (c : px_CT) (k108 : Nat → Int32 → Int32 → Int32 → px_H → Option (Int32 × px_H)) (a0 : Nat) (a4 : Int32) (a6 : Int32) (s0 : Int32) (s1 : Int32) (ph : px_H) : Option (Int32 × px_H) :=
  k108 a0 a4 (s0 + s1) (a6 + nI 1) ph
theorem r_Scribe_rowOf_135 {l : Launch} {g : px_G} {d F : Nat} {k108 : Nat → Int32 → Int32 → Int32 → px_H → Option (Int32 × px_H)} (hk108 : ∀ {a0 : Nat} {a4 : Int32} {a5 : Int32} {a6 : Int32} {ph : px_H} {r : Int32} {ph' : px_H}, k108 a0 a4 a5 a6 ph = some (r, ph') → PW l g (d + 1) m_Scribe_rowOf 108 [.ref a0, px_u, px_u, px_u, .int a4, .int a5, .int a6] [] ph (px_qI r ph')) {a0 : Nat} {a4 : Int32} {a6 : Int32} {s0 : Int32} {s1 : Int32} {ph : px_H} {r : Int32} {ph' : px_H} (h : f_Scribe_rowOf_135 F (px_ct g) k108 a0 a4 a6 s0 s1 ph = some (r, ph')) : PW l g (d + 1) m_Scribe_rowOf 135 [.ref a0, px_u, px_u, px_u, .int a4, px_u, .int a6] [.int s1, .int s0] ph (px_qI r ph') := by
  unfold f_Scribe_rowOf_135 at h
  refine px_alu rfl rfl rfl ?_
  refine px_st (lv' := [_, _, _, _, _, _, _]) rfl rfl rfl rfl rfl rfl rfl ?_
  refine px_iinc (lv' := [_, _, _, _, _, _, _]) rfl rfl rfl rfl rfl rfl ?_
  refine px_goto rfl (by decide) rfl ?_
  exact (hk108 h :)
def f_Scribe_rowOf_108 (F : Nat) (c : px_CT) : Nat → Nat → Int32 → Int32 → Int32 → px_H → Option (Int32 × px_H)
  | 0, _, _, _, _, _ => none
  | n + 1, a0, a4, a5, a6, ph =>
    if a4 ≤ a6 then
      f_Scribe_rowOf_144 F c a5 ph
    else
      (xgR ph 11 1 a0).bind fun t1 =>
      (xgR ph 2 4 t1).bind fun t2 =>
      (xaI ph 3 t2 a6).bind fun t3 =>
      if t3 = 0 then
        f_Scribe_rowOf_135 F c (f_Scribe_rowOf_108 F c n) a0 a4 a6 a5 (nI 0) ph
      else
        f_Scribe_rowOf_135 F c (f_Scribe_rowOf_108 F c n) a0 a4 a6 a5 (nI 1) ph
theorem r_Scribe_rowOf_108 {l : Launch} {g : px_G} {d F : Nat} : ∀ (n : Nat) {a0 : Nat} {a4 : Int32} {a5 : Int32} {a6 : Int32} {ph : px_H} {r : Int32} {ph' : px_H}, f_Scribe_rowOf_108 F (px_ct g) n a0 a4 a5 a6 ph = some (r, ph') → PW l g (d + 1) m_Scribe_rowOf 108 [.ref a0, px_u, px_u, px_u, .int a4, .int a5, .int a6] [] ph (px_qI r ph') := by
  intro n
  induction n with
  | zero => intro _ _ _ _ _ _ _ h; cases h
  | succ n ih =>
    intro a0 a4 a5 a6 ph r ph' h
    unfold f_Scribe_rowOf_108 at h
    refine px_ld rfl rfl rfl rfl rfl ?_
    refine px_ld rfl rfl rfl rfl rfl ?_
    refine px_icge rfl (by decide) rfl (fun hc => ?_) (fun hc => ?_)
    · replace h := (if_pos hc).symm.trans h
      refine px_forget (n := 0) (lv' := [_, _, _, _, _, _, _]) rfl ?_
      refine px_forget (n := 4) (lv' := [_, _, _, _, _, _, _]) rfl ?_
      refine px_forget (n := 6) (lv' := [_, _, _, _, _, _, _]) rfl ?_
      exact (r_Scribe_rowOf_144 h :)
    · replace h := (if_neg hc).symm.trans h
      refine px_ld rfl rfl rfl rfl rfl ?_
      refine px_ld rfl rfl rfl rfl rfl ?_
      obtain ⟨t1, h0, h⟩ := xs_some h
      obtain ⟨fs, e1, e2⟩ := xgR_some h0
      refine px_get rfl e1 e2 rfl ?_
      obtain ⟨t2, h0, h⟩ := xs_some h
      obtain ⟨fs, e1, e2⟩ := xgR_some h0
      refine px_get rfl e1 e2 rfl ?_
      refine px_ld rfl rfl rfl rfl rfl ?_
      obtain ⟨t3, h0, h⟩ := xs_some h
      obtain ⟨N, f, e1, e2, e3⟩ := xaI_some h0
      subst e3
      refine px_zald rfl e1 rfl e2 rfl ?_
      refine px_ifeq rfl (by decide) rfl (fun hc => ?_) (fun hc => ?_)
      · replace h := (if_pos hc).symm.trans h
        refine px_ic (k := 0) rfl rfl rfl ?_
        refine px_forget (n := 5) (lv' := [_, _, _, _, _, _, _]) rfl ?_
        exact (r_Scribe_rowOf_135 @ih h :)
      · replace h := (if_neg hc).symm.trans h
        refine px_ic (k := 1) rfl rfl rfl ?_
        refine px_goto rfl (by decide) rfl ?_
        refine px_forget (n := 5) (lv' := [_, _, _, _, _, _, _]) rfl ?_
        exact (r_Scribe_rowOf_135 @ih h :)
def f_Scribe_rowOf_83 (F : Nat) (c : px_CT) (a0 : Nat) (s0 : Int32) (ph : px_H) : Option (Int32 × px_H) :=
  (xgR ph 11 1 a0).bind fun t1 =>
  (xgR ph 2 4 t1).bind fun t2 =>
  (xaI ph 3 t2 s0).bind fun t3 =>
  if t3 = 0 then
    some ((65521 : Int32), ph)
  else
    f_Scribe_rowOf_108 F c F a0 s0 (nI 1) (nI 0) ph
theorem r_Scribe_rowOf_83 {l : Launch} {g : px_G} {d F : Nat} {a0 : Nat} {s0 : Int32} {ph : px_H} {r : Int32} {ph' : px_H} (h : f_Scribe_rowOf_83 F (px_ct g) a0 s0 ph = some (r, ph')) : PW l g (d + 1) m_Scribe_rowOf 83 [.ref a0, px_u, px_u, px_u, px_u, px_u, px_u] [.int s0] ph (px_qI r ph') := by
  unfold f_Scribe_rowOf_83 at h
  refine px_st (lv' := [_, _, _, _, _, _, _]) rfl rfl rfl rfl rfl rfl rfl ?_
  refine px_ld rfl rfl rfl rfl rfl ?_
  obtain ⟨t1, h0, h⟩ := xs_some h
  obtain ⟨fs, e1, e2⟩ := xgR_some h0
  refine px_get rfl e1 e2 rfl ?_
  obtain ⟨t2, h0, h⟩ := xs_some h
  obtain ⟨fs, e1, e2⟩ := xgR_some h0
  refine px_get rfl e1 e2 rfl ?_
  refine px_ld rfl rfl rfl rfl rfl ?_
  obtain ⟨t3, h0, h⟩ := xs_some h
  obtain ⟨N, f, e1, e2, e3⟩ := xaI_some h0
  subst e3
  refine px_zald rfl e1 rfl e2 rfl ?_
  refine px_ifne rfl (by decide) rfl (fun hc => ?_) (fun hc => ?_)
  · replace h := (if_neg hc).symm.trans h
    refine px_ic (k := 1) rfl rfl rfl ?_
    refine px_st (lv' := [_, _, _, _, _, _, _]) rfl rfl rfl rfl rfl rfl rfl ?_
    refine px_ic (k := 0) rfl rfl rfl ?_
    refine px_st (lv' := [_, _, _, _, _, _, _]) rfl rfl rfl rfl rfl rfl rfl ?_
    exact (r_Scribe_rowOf_108 _ h :)
  · replace h := (if_pos hc).symm.trans h
    refine px_ldcw rfl (by decide) rfl rfl ?_
    cases h
    exact px_iret rfl (Or.inl rfl) rfl ⟨rfl, rfl⟩
def f_Scribe_rowOf_64 (F : Nat) (c : px_CT) (a0 : Nat) (a1 : Option Nat) (a3 : Int32) (ph : px_H) : Option (Int32 × px_H) :=
  if a3 = 0 then
    (xgR ph 11 1 a0).bind fun t1 =>
    (a1).bind fun p2 =>
    (xgN ph 5 6 p2).bind fun t3 =>
    (xo ph 2 t1).bind fun _ =>
    xb (f_Layout_segmentOf F c t1 t3 ph) fun t4 ph5 =>
    f_Scribe_rowOf_83 F c a0 t4 ph5
  else
    f_Scribe_rowOf_83 F c a0 (nI 2) ph
theorem r_Scribe_rowOf_64 {l : Launch} {g : px_G} {d F : Nat} {a0 : Nat} {a1 : Option Nat} {a3 : Int32} {ph : px_H} {r : Int32} {ph' : px_H} (h : f_Scribe_rowOf_64 F (px_ct g) a0 a1 a3 ph = some (r, ph')) : PW l g (d + 1) m_Scribe_rowOf 64 [.ref a0, va_rf a1, px_u, .int a3, px_u, px_u, px_u] [] ph (px_qI r ph') := by
  unfold f_Scribe_rowOf_64 at h
  refine px_ld rfl rfl rfl rfl rfl ?_
  refine px_ifeq rfl (by decide) rfl (fun hc => ?_) (fun hc => ?_)
  · replace h := (if_pos hc).symm.trans h
    refine px_ld rfl rfl rfl rfl rfl ?_
    obtain ⟨t1, h0, h⟩ := xs_some h
    obtain ⟨fs, e1, e2⟩ := xgR_some h0
    refine px_get rfl e1 e2 rfl ?_
    refine px_ld rfl rfl rfl (by first | rfl | (cases a1 <;> rfl)) rfl ?_
    obtain ⟨p2, h0, h⟩ := xs_some h
    revert h
    subst h0
    intro h
    obtain ⟨t3, h0, h⟩ := xs_some h
    obtain ⟨fs, e1, e2⟩ := xgN_some h0
    refine px_get rfl e1 e2 rfl ?_
    obtain ⟨fs, h0, h⟩ := xs_some h
    have e1 := xo_some h0
    obtain ⟨t4, ph5, h0, h⟩ := xb_some h
    refine px_cV1 (lv0 := [.ref t1, va_rf t3]) rfl rfl e1 rfl rfl rfl (by first | rfl | (cases t3 <;> rfl)) rfl (by first | rfl | (cases t3 <;> rfl)) rfl (r_Layout_segmentOf h0 :) (fun _ _ q => nomatch q.2) (fun r ph' q => ?_)
    obtain ⟨rfl, q⟩ := q
    cases q
    refine px_forget (n := 1) (lv' := [_, _, _, _, _, _, _]) rfl ?_
    refine px_forget (n := 3) (lv' := [_, _, _, _, _, _, _]) rfl ?_
    exact (r_Scribe_rowOf_83 h :)
  · replace h := (if_neg hc).symm.trans h
    refine px_ic (k := 2) rfl rfl rfl ?_
    refine px_goto rfl (by decide) rfl ?_
    refine px_forget (n := 1) (lv' := [_, _, _, _, _, _, _]) rfl ?_
    refine px_forget (n := 3) (lv' := [_, _, _, _, _, _, _]) rfl ?_
    exact (r_Scribe_rowOf_83 h :)
def f_Scribe_rowOf_51 (F : Nat) (c : px_CT) (a0 : Nat) (a1 : Option Nat) (a2 : Int32) (s0 : Int32) (ph : px_H) : Option (Int32 × px_H) :=
  if a2 = 0 then
    if s0 = 0 then
      some ((65521 : Int32), ph)
    else
      f_Scribe_rowOf_64 F c a0 a1 s0 ph
  else
    f_Scribe_rowOf_64 F c a0 a1 s0 ph
theorem r_Scribe_rowOf_51 {l : Launch} {g : px_G} {d F : Nat} {a0 : Nat} {a1 : Option Nat} {a2 : Int32} {s0 : Int32} {ph : px_H} {r : Int32} {ph' : px_H} (h : f_Scribe_rowOf_51 F (px_ct g) a0 a1 a2 s0 ph = some (r, ph')) : PW l g (d + 1) m_Scribe_rowOf 51 [.ref a0, va_rf a1, .int a2, px_u, px_u, px_u, px_u] [.int s0] ph (px_qI r ph') := by
  unfold f_Scribe_rowOf_51 at h
  refine px_st (lv' := [_, _, _, _, _, _, _]) rfl rfl rfl rfl rfl rfl rfl ?_
  refine px_ld rfl rfl rfl rfl rfl ?_
  refine px_ifne rfl (by decide) rfl (fun hc => ?_) (fun hc => ?_)
  · replace h := (if_neg hc).symm.trans h
    refine px_forget (n := 2) (lv' := [_, _, _, _, _, _, _]) rfl ?_
    exact (r_Scribe_rowOf_64 h :)
  · replace h := (if_pos hc).symm.trans h
    refine px_ld rfl rfl rfl rfl rfl ?_
    refine px_ifne rfl (by decide) rfl (fun hc => ?_) (fun hc => ?_)
    · replace h := (if_neg hc).symm.trans h
      refine px_forget (n := 2) (lv' := [_, _, _, _, _, _, _]) rfl ?_
      exact (r_Scribe_rowOf_64 h :)
    · replace h := (if_pos hc).symm.trans h
      refine px_ldcw rfl (by decide) rfl rfl ?_
      cases h
      exact px_iret rfl (Or.inl rfl) rfl ⟨rfl, rfl⟩
def f_Scribe_rowOf_50 (F : Nat) (c : px_CT) (a0 : Nat) (a1 : Option Nat) (a2 : Int32) (ph : px_H) : Option (Int32 × px_H) :=
  f_Scribe_rowOf_51 F c a0 a1 a2 (nI 0) ph
theorem r_Scribe_rowOf_50 {l : Launch} {g : px_G} {d F : Nat} {a0 : Nat} {a1 : Option Nat} {a2 : Int32} {ph : px_H} {r : Int32} {ph' : px_H} (h : f_Scribe_rowOf_50 F (px_ct g) a0 a1 a2 ph = some (r, ph')) : PW l g (d + 1) m_Scribe_rowOf 50 [.ref a0, va_rf a1, .int a2, px_u, px_u, px_u, px_u] [] ph (px_qI r ph') := by
  unfold f_Scribe_rowOf_50 at h
  refine px_ic (k := 0) rfl rfl rfl ?_
  exact (r_Scribe_rowOf_51 h :)
def f_Scribe_rowOf_30 (F : Nat) (c : px_CT) (a0 : Nat) (a1 : Option Nat) (s0 : Int32) (ph : px_H) : Option (Int32 × px_H) :=
  (a1).bind fun p1 =>
  (xgI ph 5 5 p1).bind fun t2 =>
  if t2 = (nI 3) then
    (xgI ph 5 13 p1).bind fun t3 =>
    if t3 = 0 then
      f_Scribe_rowOf_50 F c a0 (some p1) s0 ph
    else
      f_Scribe_rowOf_51 F c a0 (some p1) s0 (nI 1) ph
  else
    f_Scribe_rowOf_50 F c a0 (some p1) s0 ph
theorem r_Scribe_rowOf_30 {l : Launch} {g : px_G} {d F : Nat} {a0 : Nat} {a1 : Option Nat} {s0 : Int32} {ph : px_H} {r : Int32} {ph' : px_H} (h : f_Scribe_rowOf_30 F (px_ct g) a0 a1 s0 ph = some (r, ph')) : PW l g (d + 1) m_Scribe_rowOf 30 [.ref a0, va_rf a1, px_u, px_u, px_u, px_u, px_u] [.int s0] ph (px_qI r ph') := by
  unfold f_Scribe_rowOf_30 at h
  refine px_st (lv' := [.ref a0, va_rf a1, .int s0, px_u, px_u, px_u, px_u]) rfl rfl rfl rfl (by first | rfl | (cases a1 <;> rfl)) rfl rfl ?_
  refine px_ld rfl rfl rfl (by first | rfl | (cases a1 <;> rfl)) rfl ?_
  obtain ⟨p1, h0, h⟩ := xs_some h
  revert h
  subst h0
  intro h
  obtain ⟨t2, h0, h⟩ := xs_some h
  obtain ⟨fs, e1, e2⟩ := xgI_some h0
  refine px_get rfl e1 e2 rfl ?_
  refine px_ic (k := 3) rfl rfl rfl ?_
  refine px_icne rfl (by decide) rfl (fun hc => ?_) (fun hc => ?_)
  · replace h := (if_neg hc).symm.trans h
    exact (r_Scribe_rowOf_50 h :)
  · replace h := (if_pos hc).symm.trans h
    refine px_ld rfl rfl rfl rfl rfl ?_
    obtain ⟨t3, h0, h⟩ := xs_some h
    obtain ⟨fs, e1, e2⟩ := xgI_some h0
    refine px_get rfl e1 e2 rfl ?_
    refine px_ifeq rfl (by decide) rfl (fun hc => ?_) (fun hc => ?_)
    · replace h := (if_pos hc).symm.trans h
      exact (r_Scribe_rowOf_50 h :)
    · replace h := (if_neg hc).symm.trans h
      refine px_ic (k := 1) rfl rfl rfl ?_
      refine px_goto rfl (by decide) rfl ?_
      exact (r_Scribe_rowOf_51 h :)
def f_Scribe_rowOf_29 (F : Nat) (c : px_CT) (a0 : Nat) (a1 : Option Nat) (ph : px_H) : Option (Int32 × px_H) :=
  f_Scribe_rowOf_30 F c a0 a1 (nI 0) ph
theorem r_Scribe_rowOf_29 {l : Launch} {g : px_G} {d F : Nat} {a0 : Nat} {a1 : Option Nat} {ph : px_H} {r : Int32} {ph' : px_H} (h : f_Scribe_rowOf_29 F (px_ct g) a0 a1 ph = some (r, ph')) : PW l g (d + 1) m_Scribe_rowOf 29 [.ref a0, va_rf a1, px_u, px_u, px_u, px_u, px_u] [] ph (px_qI r ph') := by
  unfold f_Scribe_rowOf_29 at h
  refine px_ic (k := 0) rfl rfl rfl ?_
  exact (r_Scribe_rowOf_30 h :)
def f_Scribe_rowOf (F : Nat) (c : px_CT) (a0 : Nat) (a1 : Option Nat) (ph : px_H) : Option (Int32 × px_H) :=
  (a1).bind fun p1 =>
  (xgI ph 5 5 p1).bind fun t2 =>
  if t2 = (nI 1) then
    (xgN ph 5 6 p1).bind fun t3 =>
    (match t3 with
      | none => f_Scribe_rowOf_29 F c a0 (some p1) ph
      | some p4 => (xgN ph 5 6 p1).bind fun t5 =>
      (t5).bind fun p6 =>
      (xgI ph 8 9 p6).bind fun t7 =>
      if t7 = 0 then
        f_Scribe_rowOf_29 F c a0 (some p1) ph
      else
        f_Scribe_rowOf_30 F c a0 (some p1) (nI 1) ph)
  else
    f_Scribe_rowOf_29 F c a0 (some p1) ph
theorem r_Scribe_rowOf {l : Launch} {g : px_G} {d F : Nat} {a0 : Nat} {a1 : Option Nat} {ph : px_H} {r : Int32} {ph' : px_H} (h : f_Scribe_rowOf F (px_ct g) a0 a1 ph = some (r, ph')) : PW l g (d + 1) m_Scribe_rowOf 0 [.ref a0, va_rf a1, px_u, px_u, px_u, px_u, px_u] [] ph (px_qI r ph') := by
  unfold f_Scribe_rowOf at h
  refine px_ld rfl rfl rfl (by first | rfl | (cases a1 <;> rfl)) rfl ?_
  obtain ⟨p1, h0, h⟩ := xs_some h
  revert h
  subst h0
  intro h
  obtain ⟨t2, h0, h⟩ := xs_some h
  obtain ⟨fs, e1, e2⟩ := xgI_some h0
  refine px_get rfl e1 e2 rfl ?_
  refine px_ic (k := 1) rfl rfl rfl ?_
  refine px_icne rfl (by decide) rfl (fun hc => ?_) (fun hc => ?_)
  · replace h := (if_neg hc).symm.trans h
    exact (r_Scribe_rowOf_29 h :)
  · replace h := (if_pos hc).symm.trans h
    refine px_ld rfl rfl rfl rfl rfl ?_
    obtain ⟨t3, h0, h⟩ := xs_some h
    obtain ⟨fs, e1, e2⟩ := xgN_some h0
    refine px_get rfl e1 e2 rfl ?_
    cases t3 with
    | none =>
      refine px_ifnullN rfl (by decide) rfl ?_
      exact (r_Scribe_rowOf_29 h :)
    | some p4 =>
      refine px_ifnullR rfl rfl ?_
      refine px_ld rfl rfl rfl rfl rfl ?_
      obtain ⟨t5, h0, h⟩ := xs_some h
      obtain ⟨fs, e1, e2⟩ := xgN_some h0
      refine px_get rfl e1 e2 rfl ?_
      obtain ⟨p6, h0, h⟩ := xs_some h
      revert h
      subst h0
      intro h
      obtain ⟨t7, h0, h⟩ := xs_some h
      obtain ⟨fs, e1, e2⟩ := xgI_some h0
      refine px_get rfl e1 e2 rfl ?_
      refine px_ifeq rfl (by decide) rfl (fun hc => ?_) (fun hc => ?_)
      · replace h := (if_pos hc).symm.trans h
        exact (r_Scribe_rowOf_29 h :)
      · replace h := (if_neg hc).symm.trans h
        refine px_ic (k := 1) rfl rfl rfl ?_
        refine px_goto rfl (by decide) rfl ?_
        exact (r_Scribe_rowOf_30 h :)
def f_Scribe_writeSegmentRows_141 (F : Nat) (c : px_CT) (ph : px_H) : Option (Unit × px_H) :=
  some ((), ph)
theorem r_Scribe_writeSegmentRows_141 {l : Launch} {g : px_G} {d F : Nat} {ph : px_H} {r : Unit} {ph' : px_H} (h : f_Scribe_writeSegmentRows_141 F (px_ct g) ph = some (r, ph')) : PW l g (d + 4) m_Scribe_writeSegmentRows 141 [px_u, px_u] [] ph (px_qV r ph') := by
  unfold f_Scribe_writeSegmentRows_141 at h
  cases h
  exact px_vret rfl rfl rfl ⟨rfl, rfl⟩
def f_Scribe_writeSegmentRows_135 (F : Nat) (c : px_CT) (k13 : Nat → Int32 → px_H → Option (Unit × px_H)) (a0 : Nat) (a1 : Int32) (ph : px_H) : Option (Unit × px_H) :=
  k13 a0 (a1 + nI 1) ph
theorem r_Scribe_writeSegmentRows_135 {l : Launch} {g : px_G} {d F : Nat} {k13 : Nat → Int32 → px_H → Option (Unit × px_H)} (hk13 : ∀ {a0 : Nat} {a1 : Int32} {ph : px_H} {r : Unit} {ph' : px_H}, k13 a0 a1 ph = some (r, ph') → PW l g (d + 4) m_Scribe_writeSegmentRows 13 [.ref a0, .int a1] [] ph (px_qV r ph')) {a0 : Nat} {a1 : Int32} {ph : px_H} {r : Unit} {ph' : px_H} (h : f_Scribe_writeSegmentRows_135 F (px_ct g) k13 a0 a1 ph = some (r, ph')) : PW l g (d + 4) m_Scribe_writeSegmentRows 135 [.ref a0, .int a1] [] ph (px_qV r ph') := by
  unfold f_Scribe_writeSegmentRows_135 at h
  refine px_iinc (lv' := [_, _]) rfl rfl rfl rfl rfl rfl ?_
  refine px_goto rfl (by decide) rfl ?_
  exact (hk13 h :)
def f_Scribe_writeSegmentRows_13 (F : Nat) (c : px_CT) : Nat → Nat → Int32 → px_H → Option (Unit × px_H)
  | 0, _, _, _ => none
  | n + 1, a0, a1, ph =>
    if (nI 3) ≤ a1 then
      f_Scribe_writeSegmentRows_141 F c ph
    else
      (xgR ph 11 1 a0).bind fun t1 =>
      (xgR ph 2 4 t1).bind fun t2 =>
      (xaI ph 3 t2 a1).bind fun t3 =>
      if t3 = 0 then
        f_Scribe_writeSegmentRows_135 F c (f_Scribe_writeSegmentRows_13 F c n) a0 a1 ph
      else
        (xgR ph 11 3 a0).bind fun t4 =>
        (xo ph 10 t4).bind fun _ =>
        xb (f_Row_put F c t4 (nI 4) (lN 0) ph) fun _ ph5 =>
        (xgR ph5 11 3 a0).bind fun t6 =>
        (xo ph5 10 t6).bind fun _ =>
        xb (f_Row_put F c t6 (nI 4) (lN 1) ph5) fun _ ph7 =>
        (xgR ph7 11 3 a0).bind fun t8 =>
        (xkI c 6 a1).bind fun t9 =>
        (xo ph7 10 t8).bind fun _ =>
        xb (f_Row_put F c t8 (nI 8) t9.toInt64 ph7) fun _ ph10 =>
        (xgR ph10 11 3 a0).bind fun t11 =>
        (xgR ph10 11 1 a0).bind fun t12 =>
        (xgR ph10 2 6 t12).bind fun t13 =>
        (xaJ ph10 2 t13 a1).bind fun t14 =>
        (xo ph10 10 t11).bind fun _ =>
        xb (f_Row_put F c t11 (nI 8) t14 ph10) fun _ ph15 =>
        (xgR ph15 11 3 a0).bind fun t16 =>
        (xgR ph15 11 1 a0).bind fun t17 =>
        (xgR ph15 2 5 t17).bind fun t18 =>
        (xaJ ph15 2 t18 a1).bind fun t19 =>
        (xo ph15 10 t16).bind fun _ =>
        xb (f_Row_put F c t16 (nI 8) t19 ph15) fun _ ph20 =>
        (xgR ph20 11 3 a0).bind fun t21 =>
        (xgR ph20 11 1 a0).bind fun t22 =>
        (xgR ph20 2 7 t22).bind fun t23 =>
        (xaJ ph20 2 t23 a1).bind fun t24 =>
        (xo ph20 10 t21).bind fun _ =>
        xb (f_Row_put F c t21 (nI 8) t24 ph20) fun _ ph25 =>
        (xgR ph25 11 3 a0).bind fun t26 =>
        (xo ph25 10 t26).bind fun _ =>
        xb (f_Row_put F c t26 (nI 8) (lN 0) ph25) fun _ ph27 =>
        (xo ph27 11 a0).bind fun _ =>
        xb (f_Scribe_endRow F c a0 ((16 : Int64)) (nI 0) ph27) fun _ ph28 =>
        f_Scribe_writeSegmentRows_135 F c (f_Scribe_writeSegmentRows_13 F c n) a0 a1 ph28
theorem r_Scribe_writeSegmentRows_13 {l : Launch} {g : px_G} {d F : Nat} : ∀ (n : Nat) {a0 : Nat} {a1 : Int32} {ph : px_H} {r : Unit} {ph' : px_H}, f_Scribe_writeSegmentRows_13 F (px_ct g) n a0 a1 ph = some (r, ph') → PW l g (d + 4) m_Scribe_writeSegmentRows 13 [.ref a0, .int a1] [] ph (px_qV r ph') := by
  intro n
  induction n with
  | zero => intro _ _ _ _ _ h; cases h
  | succ n ih =>
    intro a0 a1 ph r ph' h
    unfold f_Scribe_writeSegmentRows_13 at h
    refine px_ld rfl rfl rfl rfl rfl ?_
    refine px_ic (k := 3) rfl rfl rfl ?_
    refine px_icge rfl (by decide) rfl (fun hc => ?_) (fun hc => ?_)
    · replace h := (if_pos hc).symm.trans h
      refine px_forget (n := 0) (lv' := [_, _]) rfl ?_
      refine px_forget (n := 1) (lv' := [_, _]) rfl ?_
      exact (r_Scribe_writeSegmentRows_141 h :)
    · replace h := (if_neg hc).symm.trans h
      refine px_ld rfl rfl rfl rfl rfl ?_
      obtain ⟨t1, h0, h⟩ := xs_some h
      obtain ⟨fs, e1, e2⟩ := xgR_some h0
      refine px_get rfl e1 e2 rfl ?_
      obtain ⟨t2, h0, h⟩ := xs_some h
      obtain ⟨fs, e1, e2⟩ := xgR_some h0
      refine px_get rfl e1 e2 rfl ?_
      refine px_ld rfl rfl rfl rfl rfl ?_
      obtain ⟨t3, h0, h⟩ := xs_some h
      obtain ⟨N, f, e1, e2, e3⟩ := xaI_some h0
      subst e3
      refine px_zald rfl e1 rfl e2 rfl ?_
      refine px_ifeq rfl (by decide) rfl (fun hc => ?_) (fun hc => ?_)
      · replace h := (if_pos hc).symm.trans h
        exact (r_Scribe_writeSegmentRows_135 @ih h :)
      · replace h := (if_neg hc).symm.trans h
        refine px_ld rfl rfl rfl rfl rfl ?_
        obtain ⟨t4, h0, h⟩ := xs_some h
        obtain ⟨fs, e1, e2⟩ := xgR_some h0
        refine px_get rfl e1 e2 rfl ?_
        refine px_ic (k := 4) rfl rfl rfl ?_
        refine px_alu rfl rfl rfl ?_
        obtain ⟨fs, h0, h⟩ := xs_some h
        have e1 := xo_some h0
        obtain ⟨u0, ph5, h0, h⟩ := xb_some h
        refine px_cV2 rfl rfl e1 rfl rfl rfl rfl rfl rfl rfl (r_Row_put h0 :) (fun _ _ q => nomatch q.2) (fun r ph' q => ?_)
        obtain ⟨rfl, q⟩ := q
        cases q
        refine px_ld rfl rfl rfl rfl rfl ?_
        obtain ⟨t6, h0, h⟩ := xs_some h
        obtain ⟨fs, e1, e2⟩ := xgR_some h0
        refine px_get rfl e1 e2 rfl ?_
        refine px_ic (k := 4) rfl rfl rfl ?_
        refine px_alu rfl rfl rfl ?_
        obtain ⟨fs, h0, h⟩ := xs_some h
        have e1 := xo_some h0
        obtain ⟨u0, ph7, h0, h⟩ := xb_some h
        refine px_cV2 rfl rfl e1 rfl rfl rfl rfl rfl rfl rfl (r_Row_put h0 :) (fun _ _ q => nomatch q.2) (fun r ph' q => ?_)
        obtain ⟨rfl, q⟩ := q
        cases q
        refine px_ld rfl rfl rfl rfl rfl ?_
        obtain ⟨t8, h0, h⟩ := xs_some h
        obtain ⟨fs, e1, e2⟩ := xgR_some h0
        refine px_get rfl e1 e2 rfl ?_
        refine px_ic (k := 8) rfl rfl rfl ?_
        refine px_gets rfl rfl ?_
        refine px_ld rfl rfl rfl rfl rfl ?_
        obtain ⟨t9, h0, h⟩ := xs_some h
        obtain ⟨e0, e1, e2, e3⟩ := xkI_some h0
        subst e3
        refine px_cild rfl e0 e1 e2 rfl ?_
        refine px_alu rfl rfl rfl ?_
        obtain ⟨fs, h0, h⟩ := xs_some h
        have e1 := xo_some h0
        obtain ⟨u0, ph10, h0, h⟩ := xb_some h
        refine px_cV2 rfl rfl e1 rfl rfl rfl rfl rfl rfl rfl (r_Row_put h0 :) (fun _ _ q => nomatch q.2) (fun r ph' q => ?_)
        obtain ⟨rfl, q⟩ := q
        cases q
        refine px_ld rfl rfl rfl rfl rfl ?_
        obtain ⟨t11, h0, h⟩ := xs_some h
        obtain ⟨fs, e1, e2⟩ := xgR_some h0
        refine px_get rfl e1 e2 rfl ?_
        refine px_ic (k := 8) rfl rfl rfl ?_
        refine px_ld rfl rfl rfl rfl rfl ?_
        obtain ⟨t12, h0, h⟩ := xs_some h
        obtain ⟨fs, e1, e2⟩ := xgR_some h0
        refine px_get rfl e1 e2 rfl ?_
        obtain ⟨t13, h0, h⟩ := xs_some h
        obtain ⟨fs, e1, e2⟩ := xgR_some h0
        refine px_get rfl e1 e2 rfl ?_
        refine px_ld rfl rfl rfl rfl rfl ?_
        obtain ⟨t14, h0, h⟩ := xs_some h
        obtain ⟨N, f, e1, e2, e3⟩ := xaJ_some h0
        subst e3
        refine px_lald rfl e1 rfl e2 rfl ?_
        obtain ⟨fs, h0, h⟩ := xs_some h
        have e1 := xo_some h0
        obtain ⟨u0, ph15, h0, h⟩ := xb_some h
        refine px_cV2 rfl rfl e1 rfl rfl rfl rfl rfl rfl rfl (r_Row_put h0 :) (fun _ _ q => nomatch q.2) (fun r ph' q => ?_)
        obtain ⟨rfl, q⟩ := q
        cases q
        refine px_ld rfl rfl rfl rfl rfl ?_
        obtain ⟨t16, h0, h⟩ := xs_some h
        obtain ⟨fs, e1, e2⟩ := xgR_some h0
        refine px_get rfl e1 e2 rfl ?_
        refine px_ic (k := 8) rfl rfl rfl ?_
        refine px_ld rfl rfl rfl rfl rfl ?_
        obtain ⟨t17, h0, h⟩ := xs_some h
        obtain ⟨fs, e1, e2⟩ := xgR_some h0
        refine px_get rfl e1 e2 rfl ?_
        obtain ⟨t18, h0, h⟩ := xs_some h
        obtain ⟨fs, e1, e2⟩ := xgR_some h0
        refine px_get rfl e1 e2 rfl ?_
        refine px_ld rfl rfl rfl rfl rfl ?_
        obtain ⟨t19, h0, h⟩ := xs_some h
        obtain ⟨N, f, e1, e2, e3⟩ := xaJ_some h0
        subst e3
        refine px_lald rfl e1 rfl e2 rfl ?_
        obtain ⟨fs, h0, h⟩ := xs_some h
        have e1 := xo_some h0
        obtain ⟨u0, ph20, h0, h⟩ := xb_some h
        refine px_cV2 rfl rfl e1 rfl rfl rfl rfl rfl rfl rfl (r_Row_put h0 :) (fun _ _ q => nomatch q.2) (fun r ph' q => ?_)
        obtain ⟨rfl, q⟩ := q
        cases q
        refine px_ld rfl rfl rfl rfl rfl ?_
        obtain ⟨t21, h0, h⟩ := xs_some h
        obtain ⟨fs, e1, e2⟩ := xgR_some h0
        refine px_get rfl e1 e2 rfl ?_
        refine px_ic (k := 8) rfl rfl rfl ?_
        refine px_ld rfl rfl rfl rfl rfl ?_
        obtain ⟨t22, h0, h⟩ := xs_some h
        obtain ⟨fs, e1, e2⟩ := xgR_some h0
        refine px_get rfl e1 e2 rfl ?_
        obtain ⟨t23, h0, h⟩ := xs_some h
        obtain ⟨fs, e1, e2⟩ := xgR_some h0
        refine px_get rfl e1 e2 rfl ?_
        refine px_ld rfl rfl rfl rfl rfl ?_
        obtain ⟨t24, h0, h⟩ := xs_some h
        obtain ⟨N, f, e1, e2, e3⟩ := xaJ_some h0
        subst e3
        refine px_lald rfl e1 rfl e2 rfl ?_
        obtain ⟨fs, h0, h⟩ := xs_some h
        have e1 := xo_some h0
        obtain ⟨u0, ph25, h0, h⟩ := xb_some h
        refine px_cV2 rfl rfl e1 rfl rfl rfl rfl rfl rfl rfl (r_Row_put h0 :) (fun _ _ q => nomatch q.2) (fun r ph' q => ?_)
        obtain ⟨rfl, q⟩ := q
        cases q
        refine px_ld rfl rfl rfl rfl rfl ?_
        obtain ⟨t26, h0, h⟩ := xs_some h
        obtain ⟨fs, e1, e2⟩ := xgR_some h0
        refine px_get rfl e1 e2 rfl ?_
        refine px_ic (k := 8) rfl rfl rfl ?_
        refine px_alu rfl rfl rfl ?_
        obtain ⟨fs, h0, h⟩ := xs_some h
        have e1 := xo_some h0
        obtain ⟨u0, ph27, h0, h⟩ := xb_some h
        refine px_cV2 rfl rfl e1 rfl rfl rfl rfl rfl rfl rfl (r_Row_put h0 :) (fun _ _ q => nomatch q.2) (fun r ph' q => ?_)
        obtain ⟨rfl, q⟩ := q
        cases q
        refine px_ld rfl rfl rfl rfl rfl ?_
        refine px_ldc2 rfl rfl rfl ?_
        refine px_ic (k := 0) rfl rfl rfl ?_
        obtain ⟨fs, h0, h⟩ := xs_some h
        have e1 := xo_some h0
        obtain ⟨u0, ph28, h0, h⟩ := xb_some h
        refine px_cV2 rfl rfl e1 rfl rfl rfl rfl rfl rfl rfl (r_Scribe_endRow h0 :) (fun _ _ q => nomatch q.2) (fun r ph' q => ?_)
        obtain ⟨rfl, q⟩ := q
        cases q
        exact (r_Scribe_writeSegmentRows_135 @ih h :)
def f_Scribe_writeSegmentRows (F : Nat) (c : px_CT) (a0 : Nat) (ph : px_H) : Option (Unit × px_H) :=
  (xgR ph 11 3 a0).bind fun t1 =>
  (xo ph 10 t1).bind fun _ =>
  xb (f_Row_fillTo F c t1 ((64 : Int64)) (nI 0) ph) fun _ ph2 =>
  f_Scribe_writeSegmentRows_13 F c F a0 (nI 0) ph2
theorem r_Scribe_writeSegmentRows {l : Launch} {g : px_G} {d F : Nat} {a0 : Nat} {ph : px_H} {r : Unit} {ph' : px_H} (h : f_Scribe_writeSegmentRows F (px_ct g) a0 ph = some (r, ph')) : PW l g (d + 4) m_Scribe_writeSegmentRows 0 [.ref a0, px_u] [] ph (px_qV r ph') := by
  unfold f_Scribe_writeSegmentRows at h
  refine px_ld rfl rfl rfl rfl rfl ?_
  obtain ⟨t1, h0, h⟩ := xs_some h
  obtain ⟨fs, e1, e2⟩ := xgR_some h0
  refine px_get rfl e1 e2 rfl ?_
  refine px_ldc2 rfl rfl rfl ?_
  refine px_ic (k := 0) rfl rfl rfl ?_
  obtain ⟨fs, h0, h⟩ := xs_some h
  have e1 := xo_some h0
  obtain ⟨u0, ph2, h0, h⟩ := xb_some h
  refine px_cV2 rfl rfl e1 rfl rfl rfl rfl rfl rfl rfl (r_Row_fillTo h0 :) (fun _ _ q => nomatch q.2) (fun r ph' q => ?_)
  obtain ⟨rfl, q⟩ := q
  cases q
  refine px_ic (k := 0) rfl rfl rfl ?_
  refine px_st (lv' := [_, _]) rfl rfl rfl rfl rfl rfl rfl ?_
  exact (r_Scribe_writeSegmentRows_13 _ h :)
def f_Scribe_writeNamed_321 (F : Nat) (c : px_CT) (s0 : Int32) (ph : px_H) : Option (Int32 × px_H) :=
  xz s0 ph
theorem r_Scribe_writeNamed_321 {l : Launch} {g : px_G} {d F : Nat} {s0 : Int32} {ph : px_H} {r : Int32} {ph' : px_H} (h : f_Scribe_writeNamed_321 F (px_ct g) s0 ph = some (r, ph')) : PW l g (d + 5) m_Scribe_writeNamed 321 [px_u, px_u, px_u, px_u, px_u, px_u, px_u, px_u] [.int s0] ph (px_qI r ph') := by
  unfold f_Scribe_writeNamed_321 at h
  obtain ⟨e0, e1, e2⟩ := xz_some h
  subst e1 e2
  exact px_iret rfl (Or.inr ⟨rfl, e0⟩) rfl ⟨rfl, rfl⟩
def f_Scribe_writeNamed_170 (F : Nat) (c : px_CT) (a0 : Nat) (a1 : Nat) (a3 : Int32) (a4 : Int32) (a5 : Int32) (a6 : Int32) (ph : px_H) : Option (Int32 × px_H) :=
  xb (f_Scribe_nextPlace F c a1 ph) fun t1 ph2 =>
  (xgR ph2 11 3 a0).bind fun t3 =>
  (xo ph2 10 t3).bind fun _ =>
  xb (f_Row_clear F c t3 ph2) fun _ ph4 =>
  (xo ph4 11 a0).bind fun _ =>
  xb (f_Scribe_writeSegmentRows F c a0 ph4) fun _ ph5 =>
  (xgR ph5 11 0 a0).bind fun t6 =>
  (xgI ph5 3 15 t6).bind fun t7 =>
  (xo ph5 11 a0).bind fun _ =>
  xb (f_Scribe_putRow F c a0 ((2 : Int64)) (lN 0) a4.toInt64 (((24 : Int64)) * ((t7 + (nI 1)).toInt64)) (a3 + (nI 2)) (nI 1) ph5) fun _ ph8 =>
  (xo ph8 11 a0).bind fun _ =>
  xb (f_Scribe_endRow F c a0 ((8 : Int64)) (nI 24) ph8) fun _ ph9 =>
  (xo ph9 11 a0).bind fun _ =>
  xb (f_Scribe_putRow F c a0 ((3 : Int64)) (lN 0) a6.toInt64 a5.toInt64 (nI 0) (nI 0) ph9) fun _ ph10 =>
  (xo ph10 11 a0).bind fun _ =>
  xb (f_Scribe_endRow F c a0 (lN 1) (nI 0) ph10) fun _ ph11 =>
  (xgR ph11 11 3 a0).bind fun t12 =>
  (xgR ph11 10 0 t12).bind fun t13 =>
  (xgR ph11 11 3 a0).bind fun t14 =>
  (xgI ph11 10 1 t14).bind fun t15 =>
  (xo ph11 10 a1).bind fun _ =>
  xb (f_Row_copy F c a1 t13 (nI 0) t15 ph11) fun _ ph16 =>
  (xo ph16 10 a1).bind fun _ =>
  xb (f_Row_set F c a1 (nI 40) (nI 8) t1.toInt64 ph16) fun _ ph17 =>
  (xo ph17 10 a1).bind fun _ =>
  xb (f_Row_set F c a1 (nI 58) (nI 2) ((64 : Int64)) ph17) fun _ ph18 =>
  (xo ph18 10 a1).bind fun _ =>
  xb (f_Row_set F c a1 (nI 60) (nI 2) ((a3 + (nI 3)).toInt64) ph18) fun _ ph19 =>
  (xo ph19 10 a1).bind fun _ =>
  xb (f_Row_set F c a1 (nI 62) (nI 2) ((a3 + (nI 2)).toInt64) ph19) fun _ ph20 =>
  (xgI ph20 10 2 a1).bind fun t21 =>
  if t21 = 0 then
    f_Scribe_writeNamed_321 F c (nI 1) ph20
  else
    f_Scribe_writeNamed_321 F c (nI 0) ph20
theorem r_Scribe_writeNamed_170 {l : Launch} {g : px_G} {d F : Nat} {a0 : Nat} {a1 : Nat} {a3 : Int32} {a4 : Int32} {a5 : Int32} {a6 : Int32} {ph : px_H} {r : Int32} {ph' : px_H} (h : f_Scribe_writeNamed_170 F (px_ct g) a0 a1 a3 a4 a5 a6 ph = some (r, ph')) : PW l g (d + 5) m_Scribe_writeNamed 170 [.ref a0, .ref a1, px_u, .int a3, .int a4, .int a5, .int a6, px_u] [] ph (px_qI r ph') := by
  unfold f_Scribe_writeNamed_170 at h
  refine px_ld rfl rfl rfl rfl rfl ?_
  obtain ⟨t1, ph2, h0, h⟩ := xb_some h
  refine px_cS1 rfl rfl rfl rfl rfl rfl rfl (r_Scribe_nextPlace h0 :) (fun _ _ q => nomatch q.2) (fun r ph' q => ?_)
  obtain ⟨rfl, q⟩ := q
  cases q
  refine px_st (lv' := [_, _, _, _, _, _, _, _]) rfl rfl rfl rfl rfl rfl rfl ?_
  refine px_ld rfl rfl rfl rfl rfl ?_
  obtain ⟨t3, h0, h⟩ := xs_some h
  obtain ⟨fs, e1, e2⟩ := xgR_some h0
  refine px_get rfl e1 e2 rfl ?_
  obtain ⟨fs, h0, h⟩ := xs_some h
  have e1 := xo_some h0
  obtain ⟨u0, ph4, h0, h⟩ := xb_some h
  refine px_cV0 rfl rfl e1 rfl rfl rfl rfl rfl rfl rfl (r_Row_clear h0 :) (fun _ _ q => nomatch q.2) (fun r ph' q => ?_)
  obtain ⟨rfl, q⟩ := q
  cases q
  refine px_ld rfl rfl rfl rfl rfl ?_
  obtain ⟨fs, h0, h⟩ := xs_some h
  have e1 := xo_some h0
  obtain ⟨u0, ph5, h0, h⟩ := xb_some h
  refine px_cV0 rfl rfl e1 rfl rfl rfl rfl rfl rfl rfl (r_Scribe_writeSegmentRows h0 :) (fun _ _ q => nomatch q.2) (fun r ph' q => ?_)
  obtain ⟨rfl, q⟩ := q
  cases q
  refine px_ld rfl rfl rfl rfl rfl ?_
  refine px_ldc2 rfl rfl rfl ?_
  refine px_alu rfl rfl rfl ?_
  refine px_ld rfl rfl rfl rfl rfl ?_
  refine px_alu rfl rfl rfl ?_
  refine px_ldc2 rfl rfl rfl ?_
  refine px_ld rfl rfl rfl rfl rfl ?_
  obtain ⟨t6, h0, h⟩ := xs_some h
  obtain ⟨fs, e1, e2⟩ := xgR_some h0
  refine px_get rfl e1 e2 rfl ?_
  obtain ⟨t7, h0, h⟩ := xs_some h
  obtain ⟨fs, e1, e2⟩ := xgI_some h0
  refine px_get rfl e1 e2 rfl ?_
  refine px_ic (k := 1) rfl rfl rfl ?_
  refine px_alu rfl rfl rfl ?_
  refine px_alu rfl rfl rfl ?_
  refine px_alu rfl rfl rfl ?_
  refine px_ld rfl rfl rfl rfl rfl ?_
  refine px_ic (k := 2) rfl rfl rfl ?_
  refine px_alu rfl rfl rfl ?_
  refine px_ic (k := 1) rfl rfl rfl ?_
  obtain ⟨fs, h0, h⟩ := xs_some h
  have e1 := xo_some h0
  obtain ⟨u0, ph8, h0, h⟩ := xb_some h
  refine px_cV6 rfl rfl e1 rfl rfl rfl rfl rfl rfl rfl (r_Scribe_putRow h0 :) (fun _ _ q => nomatch q.2) (fun r ph' q => ?_)
  obtain ⟨rfl, q⟩ := q
  cases q
  refine px_ld rfl rfl rfl rfl rfl ?_
  refine px_ldc2 rfl rfl rfl ?_
  refine px_ic (k := 24) rfl rfl rfl ?_
  obtain ⟨fs, h0, h⟩ := xs_some h
  have e1 := xo_some h0
  obtain ⟨u0, ph9, h0, h⟩ := xb_some h
  refine px_cV2 rfl rfl e1 rfl rfl rfl rfl rfl rfl rfl (r_Scribe_endRow h0 :) (fun _ _ q => nomatch q.2) (fun r ph' q => ?_)
  obtain ⟨rfl, q⟩ := q
  cases q
  refine px_ld rfl rfl rfl rfl rfl ?_
  refine px_ldc2 rfl rfl rfl ?_
  refine px_alu rfl rfl rfl ?_
  refine px_ld rfl rfl rfl rfl rfl ?_
  refine px_alu rfl rfl rfl ?_
  refine px_ld rfl rfl rfl rfl rfl ?_
  refine px_alu rfl rfl rfl ?_
  refine px_ic (k := 0) rfl rfl rfl ?_
  refine px_ic (k := 0) rfl rfl rfl ?_
  obtain ⟨fs, h0, h⟩ := xs_some h
  have e1 := xo_some h0
  obtain ⟨u0, ph10, h0, h⟩ := xb_some h
  refine px_cV6 rfl rfl e1 rfl rfl rfl rfl rfl rfl rfl (r_Scribe_putRow h0 :) (fun _ _ q => nomatch q.2) (fun r ph' q => ?_)
  obtain ⟨rfl, q⟩ := q
  cases q
  refine px_ld rfl rfl rfl rfl rfl ?_
  refine px_alu rfl rfl rfl ?_
  refine px_ic (k := 0) rfl rfl rfl ?_
  obtain ⟨fs, h0, h⟩ := xs_some h
  have e1 := xo_some h0
  obtain ⟨u0, ph11, h0, h⟩ := xb_some h
  refine px_cV2 rfl rfl e1 rfl rfl rfl rfl rfl rfl rfl (r_Scribe_endRow h0 :) (fun _ _ q => nomatch q.2) (fun r ph' q => ?_)
  obtain ⟨rfl, q⟩ := q
  cases q
  refine px_ld rfl rfl rfl rfl rfl ?_
  refine px_ld rfl rfl rfl rfl rfl ?_
  obtain ⟨t12, h0, h⟩ := xs_some h
  obtain ⟨fs, e1, e2⟩ := xgR_some h0
  refine px_get rfl e1 e2 rfl ?_
  obtain ⟨t13, h0, h⟩ := xs_some h
  obtain ⟨fs, e1, e2⟩ := xgR_some h0
  refine px_get rfl e1 e2 rfl ?_
  refine px_ic (k := 0) rfl rfl rfl ?_
  refine px_ld rfl rfl rfl rfl rfl ?_
  obtain ⟨t14, h0, h⟩ := xs_some h
  obtain ⟨fs, e1, e2⟩ := xgR_some h0
  refine px_get rfl e1 e2 rfl ?_
  obtain ⟨t15, h0, h⟩ := xs_some h
  obtain ⟨fs, e1, e2⟩ := xgI_some h0
  refine px_get rfl e1 e2 rfl ?_
  obtain ⟨fs, h0, h⟩ := xs_some h
  have e1 := xo_some h0
  obtain ⟨u0, ph16, h0, h⟩ := xb_some h
  refine px_cV3 rfl rfl e1 rfl rfl rfl rfl rfl rfl rfl (r_Row_copy h0 :) (fun _ _ q => nomatch q.2) (fun r ph' q => ?_)
  obtain ⟨rfl, q⟩ := q
  cases q
  refine px_ld rfl rfl rfl rfl rfl ?_
  refine px_ic (k := 40) rfl rfl rfl ?_
  refine px_ic (k := 8) rfl rfl rfl ?_
  refine px_ld rfl rfl rfl rfl rfl ?_
  refine px_alu rfl rfl rfl ?_
  obtain ⟨fs, h0, h⟩ := xs_some h
  have e1 := xo_some h0
  obtain ⟨u0, ph17, h0, h⟩ := xb_some h
  refine px_cV3 rfl rfl e1 rfl rfl rfl rfl rfl rfl rfl (r_Row_set h0 :) (fun _ _ q => nomatch q.2) (fun r ph' q => ?_)
  obtain ⟨rfl, q⟩ := q
  cases q
  refine px_ld rfl rfl rfl rfl rfl ?_
  refine px_ic (k := 58) rfl rfl rfl ?_
  refine px_ic (k := 2) rfl rfl rfl ?_
  refine px_ldc2 rfl rfl rfl ?_
  obtain ⟨fs, h0, h⟩ := xs_some h
  have e1 := xo_some h0
  obtain ⟨u0, ph18, h0, h⟩ := xb_some h
  refine px_cV3 rfl rfl e1 rfl rfl rfl rfl rfl rfl rfl (r_Row_set h0 :) (fun _ _ q => nomatch q.2) (fun r ph' q => ?_)
  obtain ⟨rfl, q⟩ := q
  cases q
  refine px_ld rfl rfl rfl rfl rfl ?_
  refine px_ic (k := 60) rfl rfl rfl ?_
  refine px_ic (k := 2) rfl rfl rfl ?_
  refine px_ld rfl rfl rfl rfl rfl ?_
  refine px_ic (k := 3) rfl rfl rfl ?_
  refine px_alu rfl rfl rfl ?_
  refine px_alu rfl rfl rfl ?_
  obtain ⟨fs, h0, h⟩ := xs_some h
  have e1 := xo_some h0
  obtain ⟨u0, ph19, h0, h⟩ := xb_some h
  refine px_cV3 rfl rfl e1 rfl rfl rfl rfl rfl rfl rfl (r_Row_set h0 :) (fun _ _ q => nomatch q.2) (fun r ph' q => ?_)
  obtain ⟨rfl, q⟩ := q
  cases q
  refine px_ld rfl rfl rfl rfl rfl ?_
  refine px_ic (k := 62) rfl rfl rfl ?_
  refine px_ic (k := 2) rfl rfl rfl ?_
  refine px_ld rfl rfl rfl rfl rfl ?_
  refine px_ic (k := 2) rfl rfl rfl ?_
  refine px_alu rfl rfl rfl ?_
  refine px_alu rfl rfl rfl ?_
  obtain ⟨fs, h0, h⟩ := xs_some h
  have e1 := xo_some h0
  obtain ⟨u0, ph20, h0, h⟩ := xb_some h
  refine px_cV3 rfl rfl e1 rfl rfl rfl rfl rfl rfl rfl (r_Row_set h0 :) (fun _ _ q => nomatch q.2) (fun r ph' q => ?_)
  obtain ⟨rfl, q⟩ := q
  cases q
  refine px_ld rfl rfl rfl rfl rfl ?_
  obtain ⟨t21, h0, h⟩ := xs_some h
  obtain ⟨fs, e1, e2⟩ := xgI_some h0
  refine px_get rfl e1 e2 rfl ?_
  refine px_ifne rfl (by decide) rfl (fun hc => ?_) (fun hc => ?_)
  · replace h := (if_neg hc).symm.trans h
    refine px_ic (k := 0) rfl rfl rfl ?_
    refine px_forget (n := 0) (lv' := [_, _, _, _, _, _, _, _]) rfl ?_
    refine px_forget (n := 1) (lv' := [_, _, _, _, _, _, _, _]) rfl ?_
    refine px_forget (n := 3) (lv' := [_, _, _, _, _, _, _, _]) rfl ?_
    refine px_forget (n := 4) (lv' := [_, _, _, _, _, _, _, _]) rfl ?_
    refine px_forget (n := 5) (lv' := [_, _, _, _, _, _, _, _]) rfl ?_
    refine px_forget (n := 6) (lv' := [_, _, _, _, _, _, _, _]) rfl ?_
    refine px_forget (n := 7) (lv' := [_, _, _, _, _, _, _, _]) rfl ?_
    exact (r_Scribe_writeNamed_321 h :)
  · replace h := (if_pos hc).symm.trans h
    refine px_ic (k := 1) rfl rfl rfl ?_
    refine px_goto rfl (by decide) rfl ?_
    refine px_forget (n := 0) (lv' := [_, _, _, _, _, _, _, _]) rfl ?_
    refine px_forget (n := 1) (lv' := [_, _, _, _, _, _, _, _]) rfl ?_
    refine px_forget (n := 3) (lv' := [_, _, _, _, _, _, _, _]) rfl ?_
    refine px_forget (n := 4) (lv' := [_, _, _, _, _, _, _, _]) rfl ?_
    refine px_forget (n := 5) (lv' := [_, _, _, _, _, _, _, _]) rfl ?_
    refine px_forget (n := 6) (lv' := [_, _, _, _, _, _, _, _]) rfl ?_
    refine px_forget (n := 7) (lv' := [_, _, _, _, _, _, _, _]) rfl ?_
    exact (r_Scribe_writeNamed_321 h :)
def f_Scribe_writeNamed_133 (F : Nat) (c : px_CT) : Nat → Nat → Nat → Int32 → Int32 → Int32 → Int32 → Int32 → px_H → Option (Int32 × px_H)
  | 0, _, _, _, _, _, _, _, _ => none
  | n + 1, a0, a1, a3, a4, a5, a6, a7, ph =>
    (xgR ph 11 0 a0).bind fun t1 =>
    (xgI ph 3 15 t1).bind fun t2 =>
    if t2 ≤ a7 then
      f_Scribe_writeNamed_170 F c a0 a1 a3 a4 a5 a6 ph
    else
      (xgR ph 11 0 a0).bind fun t3 =>
      (xo ph 3 t3).bind fun _ =>
      xb (f_Link_definedAt F c t3 a7 ph) fun t4 ph5 =>
      (t4).bind fun p6 =>
      (xo ph5 5 p6).bind fun _ =>
      xb (f_Name_writeTo F c p6 a1 ph5) fun _ ph7 =>
      (xo ph7 10 a1).bind fun _ =>
      xb (f_Row_put F c a1 (nI 1) (lN 0) ph7) fun _ ph8 =>
      f_Scribe_writeNamed_133 F c n a0 a1 a3 a4 a5 a6 (a7 + nI 1) ph8
theorem r_Scribe_writeNamed_133 {l : Launch} {g : px_G} {d F : Nat} : ∀ (n : Nat) {a0 : Nat} {a1 : Nat} {a3 : Int32} {a4 : Int32} {a5 : Int32} {a6 : Int32} {a7 : Int32} {ph : px_H} {r : Int32} {ph' : px_H}, f_Scribe_writeNamed_133 F (px_ct g) n a0 a1 a3 a4 a5 a6 a7 ph = some (r, ph') → PW l g (d + 5) m_Scribe_writeNamed 133 [.ref a0, .ref a1, px_u, .int a3, .int a4, .int a5, .int a6, .int a7] [] ph (px_qI r ph') := by
  intro n
  induction n with
  | zero => intro _ _ _ _ _ _ _ _ _ _ h; cases h
  | succ n ih =>
    intro a0 a1 a3 a4 a5 a6 a7 ph r ph' h
    unfold f_Scribe_writeNamed_133 at h
    refine px_ld rfl rfl rfl rfl rfl ?_
    refine px_ld rfl rfl rfl rfl rfl ?_
    obtain ⟨t1, h0, h⟩ := xs_some h
    obtain ⟨fs, e1, e2⟩ := xgR_some h0
    refine px_get rfl e1 e2 rfl ?_
    obtain ⟨t2, h0, h⟩ := xs_some h
    obtain ⟨fs, e1, e2⟩ := xgI_some h0
    refine px_get rfl e1 e2 rfl ?_
    refine px_icge rfl (by decide) rfl (fun hc => ?_) (fun hc => ?_)
    · replace h := (if_pos hc).symm.trans h
      refine px_forget (n := 7) (lv' := [_, _, _, _, _, _, _, _]) rfl ?_
      exact (r_Scribe_writeNamed_170 h :)
    · replace h := (if_neg hc).symm.trans h
      refine px_ld rfl rfl rfl rfl rfl ?_
      obtain ⟨t3, h0, h⟩ := xs_some h
      obtain ⟨fs, e1, e2⟩ := xgR_some h0
      refine px_get rfl e1 e2 rfl ?_
      refine px_ld rfl rfl rfl rfl rfl ?_
      obtain ⟨fs, h0, h⟩ := xs_some h
      have e1 := xo_some h0
      obtain ⟨t4, ph5, h0, h⟩ := xb_some h
      refine px_cV1 rfl rfl e1 rfl rfl rfl rfl rfl rfl rfl (r_Link_definedAt h0 :) (fun _ _ q => nomatch q.2) (fun r ph' q => ?_)
      obtain ⟨rfl, q⟩ := q
      cases q
      refine px_ld rfl rfl rfl rfl rfl ?_
      obtain ⟨p6, h0, h⟩ := xs_some h
      revert h
      subst h0
      intro h
      obtain ⟨fs, h0, h⟩ := xs_some h
      have e1 := xo_some h0
      obtain ⟨u0, ph7, h0, h⟩ := xb_some h
      refine px_cV1 rfl rfl e1 rfl rfl rfl rfl rfl rfl rfl (r_Name_writeTo h0 :) (fun _ _ q => nomatch q.2) (fun r ph' q => ?_)
      obtain ⟨rfl, q⟩ := q
      cases q
      refine px_ld rfl rfl rfl rfl rfl ?_
      refine px_ic (k := 1) rfl rfl rfl ?_
      refine px_alu rfl rfl rfl ?_
      obtain ⟨fs, h0, h⟩ := xs_some h
      have e1 := xo_some h0
      obtain ⟨u0, ph8, h0, h⟩ := xb_some h
      refine px_cV2 rfl rfl e1 rfl rfl rfl rfl rfl rfl rfl (r_Row_put h0 :) (fun _ _ q => nomatch q.2) (fun r ph' q => ?_)
      obtain ⟨rfl, q⟩ := q
      cases q
      refine px_iinc (lv' := [_, _, _, _, _, _, _, _]) rfl rfl rfl rfl rfl rfl ?_
      refine px_goto rfl (by decide) rfl ?_
      exact (ih h :)
def f_Scribe_writeNamed_118 (F : Nat) (c : px_CT) (a0 : Nat) (a1 : Nat) (a3 : Int32) (a4 : Int32) (a5 : Int32) (ph : px_H) : Option (Int32 × px_H) :=
  xb (f_Scribe_nextPlace F c a1 ph) fun t1 ph2 =>
  (xo ph2 10 a1).bind fun _ =>
  xb (f_Row_put F c a1 (nI 1) (lN 0) ph2) fun _ ph3 =>
  f_Scribe_writeNamed_133 F c F a0 a1 a3 a4 a5 t1 (nI 0) ph3
theorem r_Scribe_writeNamed_118 {l : Launch} {g : px_G} {d F : Nat} {a0 : Nat} {a1 : Nat} {a3 : Int32} {a4 : Int32} {a5 : Int32} {ph : px_H} {r : Int32} {ph' : px_H} (h : f_Scribe_writeNamed_118 F (px_ct g) a0 a1 a3 a4 a5 ph = some (r, ph')) : PW l g (d + 5) m_Scribe_writeNamed 118 [.ref a0, .ref a1, px_u, .int a3, .int a4, .int a5, px_u, px_u] [] ph (px_qI r ph') := by
  unfold f_Scribe_writeNamed_118 at h
  refine px_ld rfl rfl rfl rfl rfl ?_
  obtain ⟨t1, ph2, h0, h⟩ := xb_some h
  refine px_cS1 rfl rfl rfl rfl rfl rfl rfl (r_Scribe_nextPlace h0 :) (fun _ _ q => nomatch q.2) (fun r ph' q => ?_)
  obtain ⟨rfl, q⟩ := q
  cases q
  refine px_st (lv' := [_, _, _, _, _, _, _, _]) rfl rfl rfl rfl rfl rfl rfl ?_
  refine px_ld rfl rfl rfl rfl rfl ?_
  refine px_ic (k := 1) rfl rfl rfl ?_
  refine px_alu rfl rfl rfl ?_
  obtain ⟨fs, h0, h⟩ := xs_some h
  have e1 := xo_some h0
  obtain ⟨u0, ph3, h0, h⟩ := xb_some h
  refine px_cV2 rfl rfl e1 rfl rfl rfl rfl rfl rfl rfl (r_Row_put h0 :) (fun _ _ q => nomatch q.2) (fun r ph' q => ?_)
  obtain ⟨rfl, q⟩ := q
  cases q
  refine px_ic (k := 0) rfl rfl rfl ?_
  refine px_st (lv' := [_, _, _, _, _, _, _, _]) rfl rfl rfl rfl rfl rfl rfl ?_
  exact (r_Scribe_writeNamed_133 _ h :)
def f_Scribe_writeNamed_50 (F : Nat) (c : px_CT) : Nat → Nat → Nat → Int32 → Int32 → Int32 → Int32 → px_H → Option (Int32 × px_H)
  | 0, _, _, _, _, _, _, _ => none
  | n + 1, a0, a1, a3, a4, a5, a6, ph =>
    (xgR ph 11 0 a0).bind fun t1 =>
    (xgI ph 3 15 t1).bind fun t2 =>
    if t2 ≤ a6 then
      f_Scribe_writeNamed_118 F c a0 a1 a3 a4 a5 ph
    else
      (xgR ph 11 0 a0).bind fun t3 =>
      (xo ph 3 t3).bind fun _ =>
      xb (f_Link_definedAt F c t3 a6 ph) fun t4 ph5 =>
      (t4).bind fun p6 =>
      (xgI ph5 5 9 p6).bind fun t7 =>
      (xo ph5 11 a0).bind fun _ =>
      xb (f_Scribe_rowOf F c a0 (some p6) ph5) fun t8 ph9 =>
      (xgJ ph9 5 14 p6).bind fun t10 =>
      (xgJ ph9 5 8 p6).bind fun t11 =>
      xb (f_Scribe_putSymbol F c a1 a5 t7 t8 t10 t11 ph9) fun _ ph12 =>
      (xgI ph12 5 3 p6).bind fun t13 =>
      f_Scribe_writeNamed_50 F c n a0 a1 a3 a4 (a5 + (t13 + (nI 1))) (a6 + nI 1) ph12
theorem r_Scribe_writeNamed_50 {l : Launch} {g : px_G} {d F : Nat} : ∀ (n : Nat) {a0 : Nat} {a1 : Nat} {a3 : Int32} {a4 : Int32} {a5 : Int32} {a6 : Int32} {ph : px_H} {r : Int32} {ph' : px_H}, f_Scribe_writeNamed_50 F (px_ct g) n a0 a1 a3 a4 a5 a6 ph = some (r, ph') → PW l g (d + 5) m_Scribe_writeNamed 50 [.ref a0, .ref a1, px_u, .int a3, .int a4, .int a5, .int a6, px_u] [] ph (px_qI r ph') := by
  intro n
  induction n with
  | zero => intro _ _ _ _ _ _ _ _ _ h; cases h
  | succ n ih =>
    intro a0 a1 a3 a4 a5 a6 ph r ph' h
    unfold f_Scribe_writeNamed_50 at h
    refine px_ld rfl rfl rfl rfl rfl ?_
    refine px_ld rfl rfl rfl rfl rfl ?_
    obtain ⟨t1, h0, h⟩ := xs_some h
    obtain ⟨fs, e1, e2⟩ := xgR_some h0
    refine px_get rfl e1 e2 rfl ?_
    obtain ⟨t2, h0, h⟩ := xs_some h
    obtain ⟨fs, e1, e2⟩ := xgI_some h0
    refine px_get rfl e1 e2 rfl ?_
    refine px_icge rfl (by decide) rfl (fun hc => ?_) (fun hc => ?_)
    · replace h := (if_pos hc).symm.trans h
      refine px_forget (n := 6) (lv' := [_, _, _, _, _, _, _, _]) rfl ?_
      exact (r_Scribe_writeNamed_118 h :)
    · replace h := (if_neg hc).symm.trans h
      refine px_ld rfl rfl rfl rfl rfl ?_
      obtain ⟨t3, h0, h⟩ := xs_some h
      obtain ⟨fs, e1, e2⟩ := xgR_some h0
      refine px_get rfl e1 e2 rfl ?_
      refine px_ld rfl rfl rfl rfl rfl ?_
      obtain ⟨fs, h0, h⟩ := xs_some h
      have e1 := xo_some h0
      obtain ⟨t4, ph5, h0, h⟩ := xb_some h
      refine px_cV1 rfl rfl e1 rfl rfl rfl rfl rfl rfl rfl (r_Link_definedAt h0 :) (fun _ _ q => nomatch q.2) (fun r ph' q => ?_)
      obtain ⟨rfl, q⟩ := q
      cases q
      refine px_st (lv' := [.ref a0, .ref a1, px_u, .int a3, .int a4, .int a5, .int a6, va_rf t4]) rfl rfl (by first | rfl | (cases t4 <;> rfl)) (by first | rfl | (cases t4 <;> rfl)) rfl (by first | rfl | (cases t4 <;> rfl)) rfl ?_
      refine px_ld rfl rfl rfl rfl rfl ?_
      refine px_ld rfl rfl rfl rfl rfl ?_
      refine px_ld rfl rfl rfl (by first | rfl | (cases t4 <;> rfl)) rfl ?_
      obtain ⟨p6, h0, h⟩ := xs_some h
      revert h
      subst h0
      intro h
      obtain ⟨t7, h0, h⟩ := xs_some h
      obtain ⟨fs, e1, e2⟩ := xgI_some h0
      refine px_get rfl e1 e2 rfl ?_
      refine px_ld rfl rfl rfl rfl rfl ?_
      refine px_ld rfl rfl rfl rfl rfl ?_
      obtain ⟨fs, h0, h⟩ := xs_some h
      have e1 := xo_some h0
      obtain ⟨t8, ph9, h0, h⟩ := xb_some h
      refine px_cV1 rfl rfl e1 rfl rfl rfl rfl rfl rfl rfl (r_Scribe_rowOf h0 :) (fun _ _ q => nomatch q.2) (fun r ph' q => ?_)
      obtain ⟨rfl, q⟩ := q
      cases q
      refine px_ld rfl rfl rfl rfl rfl ?_
      obtain ⟨t10, h0, h⟩ := xs_some h
      obtain ⟨fs, e1, e2⟩ := xgJ_some h0
      refine px_get rfl e1 e2 rfl ?_
      refine px_ld rfl rfl rfl rfl rfl ?_
      obtain ⟨t11, h0, h⟩ := xs_some h
      obtain ⟨fs, e1, e2⟩ := xgJ_some h0
      refine px_get rfl e1 e2 rfl ?_
      obtain ⟨u0, ph12, h0, h⟩ := xb_some h
      refine px_cS6 rfl rfl rfl rfl rfl rfl rfl (r_Scribe_putSymbol h0 :) (fun _ _ q => nomatch q.2) (fun r ph' q => ?_)
      obtain ⟨rfl, q⟩ := q
      cases q
      refine px_ld rfl rfl rfl rfl rfl ?_
      refine px_ld rfl rfl rfl rfl rfl ?_
      obtain ⟨t13, h0, h⟩ := xs_some h
      obtain ⟨fs, e1, e2⟩ := xgI_some h0
      refine px_get rfl e1 e2 rfl ?_
      refine px_ic (k := 1) rfl rfl rfl ?_
      refine px_alu rfl rfl rfl ?_
      refine px_alu rfl rfl rfl ?_
      refine px_st (lv' := [_, _, _, _, _, _, _, _]) rfl rfl rfl rfl rfl rfl rfl ?_
      refine px_iinc (lv' := [_, _, _, _, _, _, _, _]) rfl rfl rfl rfl rfl rfl ?_
      refine px_goto rfl (by decide) rfl ?_
      refine px_forget (n := 7) (lv' := [_, _, _, _, _, _, _, _]) rfl ?_
      exact (ih h :)
def f_Scribe_writeNamed (F : Nat) (c : px_CT) (a0 : Nat) (a1 : Nat) (a2 : Nat) (ph : px_H) : Option (Int32 × px_H) :=
  (xgR ph 11 1 a0).bind fun t1 =>
  (xo ph 2 t1).bind fun _ =>
  xb (f_Layout_countSegments F c t1 ph) fun t2 ph3 =>
  (xo ph3 10 a1).bind fun _ =>
  xb (f_Row_clear F c a1 ph3) fun _ ph4 =>
  (xgR ph4 10 0 a2).bind fun t5 =>
  (xgI ph4 10 1 a2).bind fun t6 =>
  (xo ph4 10 a1).bind fun _ =>
  xb (f_Row_copy F c a1 t5 (nI 0) t6 ph4) fun _ ph7 =>
  xb (f_Scribe_nextPlace F c a1 ph7) fun t8 ph9 =>
  (xgI ph9 10 1 a1).bind fun t10 =>
  (xo ph9 10 a1).bind fun _ =>
  xb (f_Row_fillTo F c a1 ((t10 + (nI 24)).toInt64) (nI 0) ph9) fun _ ph11 =>
  f_Scribe_writeNamed_50 F c F a0 a1 t2 t8 (nI 1) (nI 0) ph11
theorem r_Scribe_writeNamed {l : Launch} {g : px_G} {d F : Nat} {a0 : Nat} {a1 : Nat} {a2 : Nat} {ph : px_H} {r : Int32} {ph' : px_H} (h : f_Scribe_writeNamed F (px_ct g) a0 a1 a2 ph = some (r, ph')) : PW l g (d + 5) m_Scribe_writeNamed 0 [.ref a0, .ref a1, .ref a2, px_u, px_u, px_u, px_u, px_u] [] ph (px_qI r ph') := by
  unfold f_Scribe_writeNamed at h
  refine px_ld rfl rfl rfl rfl rfl ?_
  obtain ⟨t1, h0, h⟩ := xs_some h
  obtain ⟨fs, e1, e2⟩ := xgR_some h0
  refine px_get rfl e1 e2 rfl ?_
  obtain ⟨fs, h0, h⟩ := xs_some h
  have e1 := xo_some h0
  obtain ⟨t2, ph3, h0, h⟩ := xb_some h
  refine px_cV0 rfl rfl e1 rfl rfl rfl rfl rfl rfl rfl (r_Layout_countSegments h0 :) (fun _ _ q => nomatch q.2) (fun r ph' q => ?_)
  obtain ⟨rfl, q⟩ := q
  cases q
  refine px_st (lv' := [_, _, _, _, _, _, _, _]) rfl rfl rfl rfl rfl rfl rfl ?_
  refine px_ld rfl rfl rfl rfl rfl ?_
  obtain ⟨fs, h0, h⟩ := xs_some h
  have e1 := xo_some h0
  obtain ⟨u0, ph4, h0, h⟩ := xb_some h
  refine px_cV0 rfl rfl e1 rfl rfl rfl rfl rfl rfl rfl (r_Row_clear h0 :) (fun _ _ q => nomatch q.2) (fun r ph' q => ?_)
  obtain ⟨rfl, q⟩ := q
  cases q
  refine px_ld rfl rfl rfl rfl rfl ?_
  refine px_ld rfl rfl rfl rfl rfl ?_
  obtain ⟨t5, h0, h⟩ := xs_some h
  obtain ⟨fs, e1, e2⟩ := xgR_some h0
  refine px_get rfl e1 e2 rfl ?_
  refine px_ic (k := 0) rfl rfl rfl ?_
  refine px_ld rfl rfl rfl rfl rfl ?_
  obtain ⟨t6, h0, h⟩ := xs_some h
  obtain ⟨fs, e1, e2⟩ := xgI_some h0
  refine px_get rfl e1 e2 rfl ?_
  obtain ⟨fs, h0, h⟩ := xs_some h
  have e1 := xo_some h0
  obtain ⟨u0, ph7, h0, h⟩ := xb_some h
  refine px_cV3 rfl rfl e1 rfl rfl rfl rfl rfl rfl rfl (r_Row_copy h0 :) (fun _ _ q => nomatch q.2) (fun r ph' q => ?_)
  obtain ⟨rfl, q⟩ := q
  cases q
  refine px_ld rfl rfl rfl rfl rfl ?_
  obtain ⟨t8, ph9, h0, h⟩ := xb_some h
  refine px_cS1 rfl rfl rfl rfl rfl rfl rfl (r_Scribe_nextPlace h0 :) (fun _ _ q => nomatch q.2) (fun r ph' q => ?_)
  obtain ⟨rfl, q⟩ := q
  cases q
  refine px_st (lv' := [_, _, _, _, _, _, _, _]) rfl rfl rfl rfl rfl rfl rfl ?_
  refine px_ld rfl rfl rfl rfl rfl ?_
  refine px_ld rfl rfl rfl rfl rfl ?_
  obtain ⟨t10, h0, h⟩ := xs_some h
  obtain ⟨fs, e1, e2⟩ := xgI_some h0
  refine px_get rfl e1 e2 rfl ?_
  refine px_ic (k := 24) rfl rfl rfl ?_
  refine px_alu rfl rfl rfl ?_
  refine px_alu rfl rfl rfl ?_
  refine px_ic (k := 0) rfl rfl rfl ?_
  obtain ⟨fs, h0, h⟩ := xs_some h
  have e1 := xo_some h0
  obtain ⟨u0, ph11, h0, h⟩ := xb_some h
  refine px_cV2 rfl rfl e1 rfl rfl rfl rfl rfl rfl rfl (r_Row_fillTo h0 :) (fun _ _ q => nomatch q.2) (fun r ph' q => ?_)
  obtain ⟨rfl, q⟩ := q
  cases q
  refine px_ic (k := 1) rfl rfl rfl ?_
  refine px_st (lv' := [_, _, _, _, _, _, _, _]) rfl rfl rfl rfl rfl rfl rfl ?_
  refine px_ic (k := 0) rfl rfl rfl ?_
  refine px_st (lv' := [_, _, _, _, _, _, _, _]) rfl rfl rfl rfl rfl rfl rfl ?_
  refine px_forget (n := 2) (lv' := [_, _, _, _, _, _, _, _]) rfl ?_
  exact (r_Scribe_writeNamed_50 _ h :)
def f_H_named (F : Nat) (c : px_CT) (a0 : Nat) (ph : px_H) : Option (Int32 × px_H) :=
  (xgR ph 0 11 a0).bind fun t1 =>
  (xgI ph 3 18 t1).bind fun t2 =>
  if t2 = 0 then
    (xgR ph 0 15 a0).bind fun t3 =>
    (xgR ph 0 2 a0).bind fun t4 =>
    (xgR ph 0 14 a0).bind fun t5 =>
    (xgR ph 1 4 t5).bind fun t6 =>
    (xo ph 11 t3).bind fun _ =>
    xb (f_Scribe_writeNamed F c t3 t4 t6 ph) fun t7 ph8 =>
    if t7 = 0 then
      some (Int32.ofInt (-1), ph8)
    else
      (xo ph8 0 a0).bind fun _ =>
      xb (f_H_publishDraft F c a0 ph8) fun t9 ph10 =>
      some (t9, ph10)
  else
    none
theorem r_H_named {l : Launch} {g : px_G} {d F : Nat} {a0 : Nat} {ph : px_H} {r : Int32} {ph' : px_H} (h : f_H_named F (px_ct g) a0 ph = some (r, ph')) : PW l g (d + 6) m_H_named 0 [.ref a0] [] ph (px_qI r ph') := by
  unfold f_H_named at h
  refine px_ld rfl rfl rfl rfl rfl ?_
  obtain ⟨t1, h0, h⟩ := xs_some h
  obtain ⟨fs, e1, e2⟩ := xgR_some h0
  refine px_get rfl e1 e2 rfl ?_
  obtain ⟨t2, h0, h⟩ := xs_some h
  obtain ⟨fs, e1, e2⟩ := xgI_some h0
  refine px_get rfl e1 e2 rfl ?_
  refine px_ifeq rfl rfl rfl (fun hc => ?_) (fun hc => ?_)
  · replace h := (if_pos hc).symm.trans h
    refine px_ld rfl rfl rfl rfl rfl ?_
    obtain ⟨t3, h0, h⟩ := xs_some h
    obtain ⟨fs, e1, e2⟩ := xgR_some h0
    refine px_get rfl e1 e2 rfl ?_
    refine px_ld rfl rfl rfl rfl rfl ?_
    obtain ⟨t4, h0, h⟩ := xs_some h
    obtain ⟨fs, e1, e2⟩ := xgR_some h0
    refine px_get rfl e1 e2 rfl ?_
    refine px_ld rfl rfl rfl rfl rfl ?_
    obtain ⟨t5, h0, h⟩ := xs_some h
    obtain ⟨fs, e1, e2⟩ := xgR_some h0
    refine px_get rfl e1 e2 rfl ?_
    obtain ⟨t6, h0, h⟩ := xs_some h
    obtain ⟨fs, e1, e2⟩ := xgR_some h0
    refine px_get rfl e1 e2 rfl ?_
    obtain ⟨fs, h0, h⟩ := xs_some h
    have e1 := xo_some h0
    obtain ⟨t7, ph8, h0, h⟩ := xb_some h
    refine px_cV2 rfl rfl e1 rfl rfl rfl rfl rfl rfl rfl (r_Scribe_writeNamed h0 :) (fun _ _ q => nomatch q.2) (fun r ph' q => ?_)
    obtain ⟨rfl, q⟩ := q
    cases q
    refine px_ifne rfl rfl rfl (fun hc => ?_) (fun hc => ?_)
    · replace h := (if_neg hc).symm.trans h
      refine px_ld rfl rfl rfl rfl rfl ?_
      obtain ⟨fs, h0, h⟩ := xs_some h
      have e1 := xo_some h0
      obtain ⟨t9, ph10, h0, h⟩ := xb_some h
      refine px_cV0 rfl rfl e1 rfl rfl rfl rfl rfl rfl rfl (r_H_publishDraft h0 :) (fun _ _ q => nomatch q.2) (fun r ph' q => ?_)
      obtain ⟨rfl, q⟩ := q
      cases q
      cases h
      exact px_iret rfl (Or.inl rfl) rfl ⟨rfl, rfl⟩
    · replace h := (if_pos hc).symm.trans h
      refine px_alu rfl rfl rfl ?_
      cases h
      exact px_iret rfl (Or.inl rfl) rfl ⟨rfl, rfl⟩
  · replace h := (if_neg hc).symm.trans h
    cases h
def f_H_memberAt_48 (F : Nat) (c : px_CT) (s0 : Option Nat) (ph : px_H) : Option (Option Nat × px_H) :=
  some (s0, ph)
theorem r_H_memberAt_48 {l : Launch} {g : px_G} {d F : Nat} {s0 : Option Nat} {ph : px_H} {r : Option Nat} {ph' : px_H} (h : f_H_memberAt_48 F (px_ct g) s0 ph = some (r, ph')) : PW l g (d + 0) m_H_memberAt 48 [px_u, px_u, px_u, px_u] [va_rf s0] ph (px_qN r ph') := by
  unfold f_H_memberAt_48 at h
  cases h
  exact px_aret rfl rfl (Or.inl ⟨_, rfl⟩) (by first | rfl | (cases s0 <;> rfl) | (cases r <;> rfl) | (cases s0 <;> cases r <;> rfl)) rfl ⟨rfl, rfl⟩
def f_H_memberAt_22 (F : Nat) (c : px_CT) (ph : px_H) : Option (Option Nat × px_H) :=
  some (none, ph)
theorem r_H_memberAt_22 {l : Launch} {g : px_G} {d F : Nat} {ph : px_H} {r : Option Nat} {ph' : px_H} (h : f_H_memberAt_22 F (px_ct g) ph = some (r, ph')) : PW l g (d + 0) m_H_memberAt 22 [px_u, px_u, px_u, px_u] [] ph (px_qN r ph') := by
  unfold f_H_memberAt_22 at h
  refine px_alu rfl rfl rfl ?_
  cases h
  exact px_aret rfl rfl (Or.inl ⟨_, rfl⟩) (by first | rfl | (cases none <;> rfl) | (cases r <;> rfl) | (cases none <;> cases r <;> rfl)) rfl ⟨rfl, rfl⟩
def f_H_memberAt (F : Nat) (c : px_CT) (a0 : Nat) (a1 : Int32) (a2 : Int32) (ph : px_H) : Option (Option Nat × px_H) :=
  if a1 < 0 then
    f_H_memberAt_22 F c ph
  else
    (xgI ph 0 6 a0).bind fun t1 =>
    if t1 ≤ a1 then
      f_H_memberAt_22 F c ph
    else
      if a2 < 0 then
        f_H_memberAt_22 F c ph
      else
        if a2 < (nI 8) then
          (xgR ph 0 4 a0).bind fun t2 =>
          (xaN ph 4 t2 ((a1 * (nI 8)) + a2)).bind fun t3 =>
          (t3).bind fun p4 =>
          (xgI ph 7 4 p4).bind fun t5 =>
          if t5 = 0 then
            f_H_memberAt_48 F c none ph
          else
            f_H_memberAt_48 F c (some p4) ph
        else
          f_H_memberAt_22 F c ph
theorem r_H_memberAt {l : Launch} {g : px_G} {d F : Nat} {a0 : Nat} {a1 : Int32} {a2 : Int32} {ph : px_H} {r : Option Nat} {ph' : px_H} (h : f_H_memberAt F (px_ct g) a0 a1 a2 ph = some (r, ph')) : PW l g (d + 0) m_H_memberAt 0 [.ref a0, .int a1, .int a2, px_u] [] ph (px_qN r ph') := by
  unfold f_H_memberAt at h
  refine px_ld rfl rfl rfl rfl rfl ?_
  refine px_iflt rfl rfl rfl (fun hc => ?_) (fun hc => ?_)
  · replace h := (if_pos hc).symm.trans h
    refine px_forget (n := 0) (lv' := [_, _, _, _]) rfl ?_
    refine px_forget (n := 1) (lv' := [_, _, _, _]) rfl ?_
    refine px_forget (n := 2) (lv' := [_, _, _, _]) rfl ?_
    exact (r_H_memberAt_22 h :)
  · replace h := (if_neg hc).symm.trans h
    refine px_ld rfl rfl rfl rfl rfl ?_
    refine px_ld rfl rfl rfl rfl rfl ?_
    obtain ⟨t1, h0, h⟩ := xs_some h
    obtain ⟨fs, e1, e2⟩ := xgI_some h0
    refine px_get rfl e1 e2 rfl ?_
    refine px_icge rfl rfl rfl (fun hc => ?_) (fun hc => ?_)
    · replace h := (if_pos hc).symm.trans h
      refine px_forget (n := 0) (lv' := [_, _, _, _]) rfl ?_
      refine px_forget (n := 1) (lv' := [_, _, _, _]) rfl ?_
      refine px_forget (n := 2) (lv' := [_, _, _, _]) rfl ?_
      exact (r_H_memberAt_22 h :)
    · replace h := (if_neg hc).symm.trans h
      refine px_ld rfl rfl rfl rfl rfl ?_
      refine px_iflt rfl rfl rfl (fun hc => ?_) (fun hc => ?_)
      · replace h := (if_pos hc).symm.trans h
        refine px_forget (n := 0) (lv' := [_, _, _, _]) rfl ?_
        refine px_forget (n := 1) (lv' := [_, _, _, _]) rfl ?_
        refine px_forget (n := 2) (lv' := [_, _, _, _]) rfl ?_
        exact (r_H_memberAt_22 h :)
      · replace h := (if_neg hc).symm.trans h
        refine px_ld rfl rfl rfl rfl rfl ?_
        refine px_ic (k := 8) rfl rfl rfl ?_
        refine px_iclt rfl rfl rfl (fun hc => ?_) (fun hc => ?_)
        · replace h := (if_pos hc).symm.trans h
          refine px_ld rfl rfl rfl rfl rfl ?_
          obtain ⟨t2, h0, h⟩ := xs_some h
          obtain ⟨fs, e1, e2⟩ := xgR_some h0
          refine px_get rfl e1 e2 rfl ?_
          refine px_ld rfl rfl rfl rfl rfl ?_
          refine px_ic (k := 8) rfl rfl rfl ?_
          refine px_alu rfl rfl rfl ?_
          refine px_ld rfl rfl rfl rfl rfl ?_
          refine px_alu rfl rfl rfl ?_
          obtain ⟨t3, h0, h⟩ := xs_some h
          obtain ⟨N, f, e1, e2, e3⟩ := xaN_some h0
          refine px_aaldO rfl e1 rfl e2 e3 rfl ?_
          refine px_st (lv' := [.ref a0, .int a1, .int a2, va_rf t3]) rfl rfl (by first | rfl | (cases t3 <;> rfl)) (by first | rfl | (cases t3 <;> rfl)) rfl (by first | rfl | (cases t3 <;> rfl)) rfl ?_
          refine px_ld rfl rfl rfl (by first | rfl | (cases t3 <;> rfl)) rfl ?_
          obtain ⟨p4, h0, h⟩ := xs_some h
          revert h
          subst h0
          intro h
          obtain ⟨t5, h0, h⟩ := xs_some h
          obtain ⟨fs, e1, e2⟩ := xgI_some h0
          refine px_get rfl e1 e2 rfl ?_
          refine px_ifne rfl rfl rfl (fun hc => ?_) (fun hc => ?_)
          · replace h := (if_neg hc).symm.trans h
            refine px_ld rfl rfl rfl rfl rfl ?_
            refine px_forget (n := 0) (lv' := [_, _, _, _]) rfl ?_
            refine px_forget (n := 1) (lv' := [_, _, _, _]) rfl ?_
            refine px_forget (n := 2) (lv' := [_, _, _, _]) rfl ?_
            refine px_forget (n := 3) (lv' := [_, _, _, _]) rfl ?_
            exact (r_H_memberAt_48 h :)
          · replace h := (if_pos hc).symm.trans h
            refine px_alu rfl rfl rfl ?_
            refine px_goto rfl rfl rfl ?_
            refine px_forget (n := 0) (lv' := [_, _, _, _]) rfl ?_
            refine px_forget (n := 1) (lv' := [_, _, _, _]) rfl ?_
            refine px_forget (n := 2) (lv' := [_, _, _, _]) rfl ?_
            refine px_forget (n := 3) (lv' := [_, _, _, _]) rfl ?_
            exact (r_H_memberAt_48 h :)
        · replace h := (if_neg hc).symm.trans h
          refine px_forget (n := 0) (lv' := [_, _, _, _]) rfl ?_
          refine px_forget (n := 1) (lv' := [_, _, _, _]) rfl ?_
          refine px_forget (n := 2) (lv' := [_, _, _, _]) rfl ?_
          exact (r_H_memberAt_22 h :)
def f_H_objectAt_24 (F : Nat) (c : px_CT) (s0 : Option Nat) (ph : px_H) : Option (Option Nat × px_H) :=
  some (s0, ph)
theorem r_H_objectAt_24 {l : Launch} {g : px_G} {d F : Nat} {s0 : Option Nat} {ph : px_H} {r : Option Nat} {ph' : px_H} (h : f_H_objectAt_24 F (px_ct g) s0 ph = some (r, ph')) : PW l g (d + 1) m_H_objectAt 24 [px_u, px_u, px_u, px_u] [va_rf s0] ph (px_qN r ph') := by
  unfold f_H_objectAt_24 at h
  cases h
  exact px_aret rfl rfl (Or.inl ⟨_, rfl⟩) (by first | rfl | (cases s0 <;> rfl) | (cases r <;> rfl) | (cases s0 <;> cases r <;> rfl)) rfl ⟨rfl, rfl⟩
def f_H_objectAt_19 (F : Nat) (c : px_CT) (ph : px_H) : Option (Option Nat × px_H) :=
  f_H_objectAt_24 F c none ph
theorem r_H_objectAt_19 {l : Launch} {g : px_G} {d F : Nat} {ph : px_H} {r : Option Nat} {ph' : px_H} (h : f_H_objectAt_19 F (px_ct g) ph = some (r, ph')) : PW l g (d + 1) m_H_objectAt 19 [px_u, px_u, px_u, px_u] [] ph (px_qN r ph') := by
  unfold f_H_objectAt_19 at h
  refine px_alu rfl rfl rfl ?_
  refine px_goto rfl rfl rfl ?_
  exact (r_H_objectAt_24 h :)
def f_H_objectAt (F : Nat) (c : px_CT) (a0 : Nat) (a1 : Int32) (a2 : Int32) (ph : px_H) : Option (Option Nat × px_H) :=
  (xo ph 0 a0).bind fun _ =>
  xb (f_H_memberAt F c a0 a1 a2 ph) fun t1 ph2 =>
  (match t1 with
    | none => f_H_objectAt_19 F c ph2
    | some p3 => (xgI ph2 7 4 p3).bind fun t4 =>
    if t4 = (nI 3) then
      f_H_objectAt_19 F c ph2
    else
      f_H_objectAt_24 F c (some p3) ph2)
theorem r_H_objectAt {l : Launch} {g : px_G} {d F : Nat} {a0 : Nat} {a1 : Int32} {a2 : Int32} {ph : px_H} {r : Option Nat} {ph' : px_H} (h : f_H_objectAt F (px_ct g) a0 a1 a2 ph = some (r, ph')) : PW l g (d + 1) m_H_objectAt 0 [.ref a0, .int a1, .int a2, px_u] [] ph (px_qN r ph') := by
  unfold f_H_objectAt at h
  refine px_ld rfl rfl rfl rfl rfl ?_
  refine px_ld rfl rfl rfl rfl rfl ?_
  refine px_ld rfl rfl rfl rfl rfl ?_
  obtain ⟨fs, h0, h⟩ := xs_some h
  have e1 := xo_some h0
  obtain ⟨t1, ph2, h0, h⟩ := xb_some h
  refine px_cV2 rfl rfl e1 rfl rfl rfl rfl rfl rfl rfl (r_H_memberAt h0 :) (fun _ _ q => nomatch q.2) (fun r ph' q => ?_)
  obtain ⟨rfl, q⟩ := q
  cases q
  refine px_st (lv' := [.ref a0, .int a1, .int a2, va_rf t1]) rfl rfl (by first | rfl | (cases t1 <;> rfl)) (by first | rfl | (cases t1 <;> rfl)) rfl (by first | rfl | (cases t1 <;> rfl)) rfl ?_
  refine px_ld rfl rfl rfl (by first | rfl | (cases t1 <;> rfl)) rfl ?_
  cases t1 with
  | none =>
    refine px_ifnullN rfl rfl rfl ?_
    refine px_forget (n := 0) (lv' := [_, _, _, _]) rfl ?_
    refine px_forget (n := 1) (lv' := [_, _, _, _]) rfl ?_
    refine px_forget (n := 2) (lv' := [_, _, _, _]) rfl ?_
    refine px_forget (n := 3) (lv' := [_, _, _, _]) rfl ?_
    exact (r_H_objectAt_19 h :)
  | some p3 =>
    refine px_ifnullR rfl rfl ?_
    refine px_ld rfl rfl rfl rfl rfl ?_
    obtain ⟨t4, h0, h⟩ := xs_some h
    obtain ⟨fs, e1, e2⟩ := xgI_some h0
    refine px_get rfl e1 e2 rfl ?_
    refine px_ic (k := 3) rfl rfl rfl ?_
    refine px_icne rfl rfl rfl (fun hc => ?_) (fun hc => ?_)
    · replace h := (if_neg hc).symm.trans h
      refine px_ld rfl rfl rfl rfl rfl ?_
      refine px_forget (n := 0) (lv' := [_, _, _, _]) rfl ?_
      refine px_forget (n := 1) (lv' := [_, _, _, _]) rfl ?_
      refine px_forget (n := 2) (lv' := [_, _, _, _]) rfl ?_
      refine px_forget (n := 3) (lv' := [_, _, _, _]) rfl ?_
      exact (r_H_objectAt_24 h :)
    · replace h := (if_pos hc).symm.trans h
      refine px_forget (n := 0) (lv' := [_, _, _, _]) rfl ?_
      refine px_forget (n := 1) (lv' := [_, _, _, _]) rfl ?_
      refine px_forget (n := 2) (lv' := [_, _, _, _]) rfl ?_
      refine px_forget (n := 3) (lv' := [_, _, _, _]) rfl ?_
      exact (r_H_objectAt_19 h :)
def f_Row_putHex_52 (F : Nat) (c : px_CT) (ph : px_H) : Option (Unit × px_H) :=
  some ((), ph)
theorem r_Row_putHex_52 {l : Launch} {g : px_G} {d F : Nat} {ph : px_H} {r : Unit} {ph' : px_H} (h : f_Row_putHex_52 F (px_ct g) ph = some (r, ph')) : PW l g (d + 1) m_Row_putHex 52 [px_u, px_u, px_u, px_u, px_u] [] ph (px_qV r ph') := by
  unfold f_Row_putHex_52 at h
  cases h
  exact px_vret rfl rfl rfl ⟨rfl, rfl⟩
def f_Row_putHex_43 (F : Nat) (c : px_CT) (k3 : Nat → Int64 → Int32 → px_H → Option (Unit × px_H)) (a0 : Nat) (a1 : Int64) (a3 : Int32) (s0 : Nat) (s1 : Int32) (s2 : Int64) (ph : px_H) : Option (Unit × px_H) :=
  (xo ph 10 s0).bind fun _ =>
  xb (f_Row_put F c s0 s1 s2 ph) fun _ ph1 =>
  k3 a0 a1 (a3 + Int32.ofInt (-4)) ph1
theorem r_Row_putHex_43 {l : Launch} {g : px_G} {d F : Nat} {k3 : Nat → Int64 → Int32 → px_H → Option (Unit × px_H)} (hk3 : ∀ {a0 : Nat} {a1 : Int64} {a3 : Int32} {ph : px_H} {r : Unit} {ph' : px_H}, k3 a0 a1 a3 ph = some (r, ph') → PW l g (d + 1) m_Row_putHex 3 [.ref a0, .long a1, px_u, .int a3, px_u] [] ph (px_qV r ph')) {a0 : Nat} {a1 : Int64} {a3 : Int32} {s0 : Nat} {s1 : Int32} {s2 : Int64} {ph : px_H} {r : Unit} {ph' : px_H} (h : f_Row_putHex_43 F (px_ct g) k3 a0 a1 a3 s0 s1 s2 ph = some (r, ph')) : PW l g (d + 1) m_Row_putHex 43 [.ref a0, .long a1, px_u, .int a3, px_u] [.long s2, .int s1, .ref s0] ph (px_qV r ph') := by
  unfold f_Row_putHex_43 at h
  obtain ⟨fs, h0, h⟩ := xs_some h
  have e1 := xo_some h0
  obtain ⟨u0, ph1, h0, h⟩ := xb_some h
  refine px_cV2 rfl rfl e1 rfl rfl rfl rfl rfl rfl rfl (r_Row_put h0 :) (fun _ _ q => nomatch q.2) (fun r ph' q => ?_)
  obtain ⟨rfl, q⟩ := q
  cases q
  refine px_iinc (lv' := [_, _, _, _, _]) rfl rfl rfl rfl rfl rfl ?_
  refine px_goto rfl rfl rfl ?_
  exact (hk3 h :)
def f_Row_putHex_3 (F : Nat) (c : px_CT) : Nat → Nat → Int64 → Int32 → px_H → Option (Unit × px_H)
  | 0, _, _, _, _ => none
  | n + 1, a0, a1, a3, ph =>
    if a3 < 0 then
      f_Row_putHex_52 F c ph
    else
      if (nI 10) ≤ ((((a1.toUInt64 >>> (a3.toInt64.toUInt64 &&& Int64.toUInt64 63)).toInt64).toInt32) &&& (nI 15)) then
        f_Row_putHex_43 F c (f_Row_putHex_3 F c n) a0 a1 a3 a0 (nI 1) ((((nI 97) + ((((a1.toUInt64 >>> (a3.toInt64.toUInt64 &&& Int64.toUInt64 63)).toInt64).toInt32) &&& (nI 15))) - (nI 10)).toInt64) ph
      else
        f_Row_putHex_43 F c (f_Row_putHex_3 F c n) a0 a1 a3 a0 (nI 1) (((nI 48) + ((((a1.toUInt64 >>> (a3.toInt64.toUInt64 &&& Int64.toUInt64 63)).toInt64).toInt32) &&& (nI 15))).toInt64) ph
theorem r_Row_putHex_3 {l : Launch} {g : px_G} {d F : Nat} : ∀ (n : Nat) {a0 : Nat} {a1 : Int64} {a3 : Int32} {ph : px_H} {r : Unit} {ph' : px_H}, f_Row_putHex_3 F (px_ct g) n a0 a1 a3 ph = some (r, ph') → PW l g (d + 1) m_Row_putHex 3 [.ref a0, .long a1, px_u, .int a3, px_u] [] ph (px_qV r ph') := by
  intro n
  induction n with
  | zero => intro _ _ _ _ _ _ h; cases h
  | succ n ih =>
    intro a0 a1 a3 ph r ph' h
    unfold f_Row_putHex_3 at h
    refine px_ld rfl rfl rfl rfl rfl ?_
    refine px_iflt rfl rfl rfl (fun hc => ?_) (fun hc => ?_)
    · replace h := (if_pos hc).symm.trans h
      refine px_forget (n := 0) (lv' := [_, _, _, _, _]) rfl ?_
      refine px_forget (n := 1) (lv' := [_, _, _, _, _]) rfl ?_
      refine px_forget (n := 3) (lv' := [_, _, _, _, _]) rfl ?_
      exact (r_Row_putHex_52 h :)
    · replace h := (if_neg hc).symm.trans h
      refine px_ld rfl rfl rfl rfl rfl ?_
      refine px_ld rfl rfl rfl rfl rfl ?_
      refine px_alu rfl rfl rfl ?_
      refine px_alu rfl rfl rfl ?_
      refine px_ic (k := 15) rfl rfl rfl ?_
      refine px_alu rfl rfl rfl ?_
      refine px_st (lv' := [_, _, _, _, _]) rfl rfl rfl rfl rfl rfl rfl ?_
      refine px_ld rfl rfl rfl rfl rfl ?_
      refine px_ic (k := 1) rfl rfl rfl ?_
      refine px_ld rfl rfl rfl rfl rfl ?_
      refine px_ic (k := 10) rfl rfl rfl ?_
      refine px_icge rfl rfl rfl (fun hc => ?_) (fun hc => ?_)
      · replace h := (if_pos hc).symm.trans h
        refine px_ic (k := 97) rfl rfl rfl ?_
        refine px_ld rfl rfl rfl rfl rfl ?_
        refine px_alu rfl rfl rfl ?_
        refine px_ic (k := 10) rfl rfl rfl ?_
        refine px_alu rfl rfl rfl ?_
        refine px_alu rfl rfl rfl ?_
        refine px_forget (n := 4) (lv' := [_, _, _, _, _]) rfl ?_
        exact (r_Row_putHex_43 @ih h :)
      · replace h := (if_neg hc).symm.trans h
        refine px_ic (k := 48) rfl rfl rfl ?_
        refine px_ld rfl rfl rfl rfl rfl ?_
        refine px_alu rfl rfl rfl ?_
        refine px_alu rfl rfl rfl ?_
        refine px_goto rfl rfl rfl ?_
        refine px_forget (n := 4) (lv' := [_, _, _, _, _]) rfl ?_
        exact (r_Row_putHex_43 @ih h :)
def f_Row_putHex (F : Nat) (c : px_CT) (a0 : Nat) (a1 : Int64) (ph : px_H) : Option (Unit × px_H) :=
  f_Row_putHex_3 F c F a0 a1 (nI 60) ph
theorem r_Row_putHex {l : Launch} {g : px_G} {d F : Nat} {a0 : Nat} {a1 : Int64} {ph : px_H} {r : Unit} {ph' : px_H} (h : f_Row_putHex F (px_ct g) a0 a1 ph = some (r, ph')) : PW l g (d + 1) m_Row_putHex 0 [.ref a0, .long a1, px_u, px_u, px_u] [] ph (px_qV r ph') := by
  unfold f_Row_putHex at h
  refine px_ic (k := 60) rfl rfl rfl ?_
  refine px_st (lv' := [_, _, _, _, _]) rfl rfl rfl rfl rfl rfl rfl ?_
  exact (r_Row_putHex_3 _ h :)
def f_Scribe_letterOf_100 (F : Nat) (c : px_CT) (s0 : Int32) (ph : px_H) : Option (Int32 × px_H) :=
  some (s0, ph)
theorem r_Scribe_letterOf_100 {l : Launch} {g : px_G} {d F : Nat} {s0 : Int32} {ph : px_H} {r : Int32} {ph' : px_H} (h : f_Scribe_letterOf_100 F (px_ct g) s0 ph = some (r, ph')) : PW l g (d + 5) m_Scribe_letterOf 100 [px_u, px_u, px_u, px_u, px_u, px_u] [.int s0] ph (px_qI r ph') := by
  unfold f_Scribe_letterOf_100 at h
  cases h
  exact px_iret rfl (Or.inl rfl) rfl ⟨rfl, rfl⟩
def f_Scribe_letterOf_81 (F : Nat) (c : px_CT) (a4 : Int32) (s0 : Int32) (ph : px_H) : Option (Int32 × px_H) :=
  if s0 = 0 then
    f_Scribe_letterOf_100 F c (nI 65) ph
  else
    (xsc 20 a4).bind fun t1 =>
    f_Scribe_letterOf_100 F c t1 ph
theorem r_Scribe_letterOf_81 {l : Launch} {g : px_G} {d F : Nat} {a4 : Int32} {s0 : Int32} {ph : px_H} {r : Int32} {ph' : px_H} (h : f_Scribe_letterOf_81 F (px_ct g) a4 s0 ph = some (r, ph')) : PW l g (d + 5) m_Scribe_letterOf 81 [px_u, px_u, px_u, px_u, .int a4, px_u] [.int s0] ph (px_qI r ph') := by
  unfold f_Scribe_letterOf_81 at h
  refine px_st (lv' := [_, _, _, _, _, _]) rfl rfl rfl rfl rfl rfl rfl ?_
  refine px_ld rfl rfl rfl rfl rfl ?_
  refine px_ifeq rfl rfl rfl (fun hc => ?_) (fun hc => ?_)
  · replace h := (if_pos hc).symm.trans h
    refine px_ic (k := 65) rfl rfl rfl ?_
    refine px_forget (n := 4) (lv' := [_, _, _, _, _, _]) rfl ?_
    refine px_forget (n := 5) (lv' := [_, _, _, _, _, _]) rfl ?_
    exact (r_Scribe_letterOf_100 h :)
  · replace h := (if_neg hc).symm.trans h
    refine px_ldcs rfl rfl rfl rfl rfl ?_
    refine px_ld rfl rfl rfl rfl rfl ?_
    obtain ⟨t1, h0, h⟩ := xs_some h
    obtain ⟨k, e0, e1, e2, e3⟩ := xsc_some h0
    subst e3
    rw [e0]
    refine px_schar rfl e1 e2 rfl rfl ?_
    rw [← e0]
    refine px_goto rfl rfl rfl ?_
    refine px_forget (n := 4) (lv' := [_, _, _, _, _, _]) rfl ?_
    refine px_forget (n := 5) (lv' := [_, _, _, _, _, _]) rfl ?_
    exact (r_Scribe_letterOf_100 h :)
def f_Scribe_letterOf_80 (F : Nat) (c : px_CT) (a4 : Int32) (ph : px_H) : Option (Int32 × px_H) :=
  f_Scribe_letterOf_81 F c a4 (nI 0) ph
theorem r_Scribe_letterOf_80 {l : Launch} {g : px_G} {d F : Nat} {a4 : Int32} {ph : px_H} {r : Int32} {ph' : px_H} (h : f_Scribe_letterOf_80 F (px_ct g) a4 ph = some (r, ph')) : PW l g (d + 5) m_Scribe_letterOf 80 [px_u, px_u, px_u, px_u, .int a4, px_u] [] ph (px_qI r ph') := by
  unfold f_Scribe_letterOf_80 at h
  refine px_ic (k := 0) rfl rfl rfl ?_
  exact (r_Scribe_letterOf_81 h :)
def f_Scribe_letterOf_36 (F : Nat) (c : px_CT) (s0 : Int32) (ph : px_H) : Option (Int32 × px_H) :=
  some (s0, ph)
theorem r_Scribe_letterOf_36 {l : Launch} {g : px_G} {d F : Nat} {s0 : Int32} {ph : px_H} {r : Int32} {ph' : px_H} (h : f_Scribe_letterOf_36 F (px_ct g) s0 ph = some (r, ph')) : PW l g (d + 5) m_Scribe_letterOf 36 [px_u, px_u, px_u, px_u, px_u, px_u] [.int s0] ph (px_qI r ph') := by
  unfold f_Scribe_letterOf_36 at h
  cases h
  exact px_iret rfl (Or.inl rfl) rfl ⟨rfl, rfl⟩
def f_Scribe_letterOf_20 (F : Nat) (c : px_CT) (a0 : Option Nat) (a2 : Int32) (s0 : Int32) (ph : px_H) : Option (Int32 × px_H) :=
  if a2 = 0 then
    if s0 = 0 then
      f_Scribe_letterOf_36 F c (nI 85) ph
    else
      f_Scribe_letterOf_36 F c (nI 119) ph
  else
    if a2 = ((65522 : Int32)) then
      some (nI 67, ph)
    else
      if s0 = 0 then
        (a0).bind fun p1 =>
        (xo ph 7 p1).bind fun _ =>
        xb (f_ObjectFile_groupOf F c p1 a2.toInt64 ph) fun t2 ph3 =>
        if t2 < 0 then
          f_Scribe_letterOf_80 F c t2 ph3
        else
          (xsl 20).bind fun t4 =>
          if t4 ≤ t2 then
            f_Scribe_letterOf_80 F c t2 ph3
          else
            f_Scribe_letterOf_81 F c t2 (nI 1) ph3
      else
        some (nI 87, ph)
theorem r_Scribe_letterOf_20 {l : Launch} {g : px_G} {d F : Nat} {a0 : Option Nat} {a2 : Int32} {s0 : Int32} {ph : px_H} {r : Int32} {ph' : px_H} (h : f_Scribe_letterOf_20 F (px_ct g) a0 a2 s0 ph = some (r, ph')) : PW l g (d + 5) m_Scribe_letterOf 20 [va_rf a0, px_u, .int a2, px_u, px_u, px_u] [.int s0] ph (px_qI r ph') := by
  unfold f_Scribe_letterOf_20 at h
  refine px_st (lv' := [_, _, _, _, _, _]) rfl rfl rfl rfl rfl rfl rfl ?_
  refine px_ld rfl rfl rfl rfl rfl ?_
  refine px_ifne rfl rfl rfl (fun hc => ?_) (fun hc => ?_)
  · replace h := (if_neg hc).symm.trans h
    refine px_ld rfl rfl rfl rfl rfl ?_
    refine px_ldc rfl (by decide) rfl rfl ?_
    refine px_icne rfl rfl rfl (fun hc => ?_) (fun hc => ?_)
    · replace h := (if_neg hc).symm.trans h
      refine px_ld rfl rfl rfl rfl rfl ?_
      refine px_ifeq rfl rfl rfl (fun hc => ?_) (fun hc => ?_)
      · replace h := (if_pos hc).symm.trans h
        refine px_ld rfl rfl rfl (by first | rfl | (cases a0 <;> rfl)) rfl ?_
        refine px_ld rfl rfl rfl rfl rfl ?_
        refine px_alu rfl rfl rfl ?_
        obtain ⟨p1, h0, h⟩ := xs_some h
        revert h
        subst h0
        intro h
        obtain ⟨fs, h0, h⟩ := xs_some h
        have e1 := xo_some h0
        obtain ⟨t2, ph3, h0, h⟩ := xb_some h
        refine px_cV1 rfl rfl e1 rfl rfl rfl rfl rfl rfl rfl (r_ObjectFile_groupOf h0 :) (fun _ _ q => nomatch q.2) (fun r ph' q => ?_)
        obtain ⟨rfl, q⟩ := q
        cases q
        refine px_st (lv' := [_, _, _, _, _, _]) rfl rfl rfl rfl rfl rfl rfl ?_
        refine px_ld rfl rfl rfl rfl rfl ?_
        refine px_iflt rfl rfl rfl (fun hc => ?_) (fun hc => ?_)
        · replace h := (if_pos hc).symm.trans h
          refine px_forget (n := 0) (lv' := [_, _, _, _, _, _]) rfl ?_
          refine px_forget (n := 2) (lv' := [_, _, _, _, _, _]) rfl ?_
          refine px_forget (n := 3) (lv' := [_, _, _, _, _, _]) rfl ?_
          exact (r_Scribe_letterOf_80 h :)
        · replace h := (if_neg hc).symm.trans h
          refine px_ld rfl rfl rfl rfl rfl ?_
          refine px_ldcs rfl rfl rfl rfl rfl ?_
          obtain ⟨t4, h0, h⟩ := xs_some h
          obtain ⟨e0, e3⟩ := xsl_some h0
          subst e3
          refine px_slen rfl e0 rfl rfl ?_
          refine px_icge rfl rfl rfl (fun hc => ?_) (fun hc => ?_)
          · replace h := (if_pos hc).symm.trans h
            refine px_forget (n := 0) (lv' := [_, _, _, _, _, _]) rfl ?_
            refine px_forget (n := 2) (lv' := [_, _, _, _, _, _]) rfl ?_
            refine px_forget (n := 3) (lv' := [_, _, _, _, _, _]) rfl ?_
            exact (r_Scribe_letterOf_80 h :)
          · replace h := (if_neg hc).symm.trans h
            refine px_ic (k := 1) rfl rfl rfl ?_
            refine px_goto rfl rfl rfl ?_
            refine px_forget (n := 0) (lv' := [_, _, _, _, _, _]) rfl ?_
            refine px_forget (n := 2) (lv' := [_, _, _, _, _, _]) rfl ?_
            refine px_forget (n := 3) (lv' := [_, _, _, _, _, _]) rfl ?_
            exact (r_Scribe_letterOf_81 h :)
      · replace h := (if_neg hc).symm.trans h
        refine px_ic (k := 87) rfl rfl rfl ?_
        cases h
        exact px_iret rfl (Or.inl rfl) rfl ⟨rfl, rfl⟩
    · replace h := (if_pos hc).symm.trans h
      refine px_ic (k := 67) rfl rfl rfl ?_
      cases h
      exact px_iret rfl (Or.inl rfl) rfl ⟨rfl, rfl⟩
  · replace h := (if_pos hc).symm.trans h
    refine px_ld rfl rfl rfl rfl rfl ?_
    refine px_ifeq rfl rfl rfl (fun hc => ?_) (fun hc => ?_)
    · replace h := (if_pos hc).symm.trans h
      refine px_ic (k := 85) rfl rfl rfl ?_
      refine px_forget (n := 0) (lv' := [_, _, _, _, _, _]) rfl ?_
      refine px_forget (n := 2) (lv' := [_, _, _, _, _, _]) rfl ?_
      refine px_forget (n := 3) (lv' := [_, _, _, _, _, _]) rfl ?_
      exact (r_Scribe_letterOf_36 h :)
    · replace h := (if_neg hc).symm.trans h
      refine px_ic (k := 119) rfl rfl rfl ?_
      refine px_goto rfl rfl rfl ?_
      refine px_forget (n := 0) (lv' := [_, _, _, _, _, _]) rfl ?_
      refine px_forget (n := 2) (lv' := [_, _, _, _, _, _]) rfl ?_
      refine px_forget (n := 3) (lv' := [_, _, _, _, _, _]) rfl ?_
      exact (r_Scribe_letterOf_36 h :)
def f_Scribe_letterOf (F : Nat) (c : px_CT) (a0 : Option Nat) (a1 : Int32) (ph : px_H) : Option (Int32 × px_H) :=
  (a0).bind fun p1 =>
  (xo ph 7 p1).bind fun _ =>
  xb (f_ObjectFile_whereOf F c p1 a1 ph) fun t2 ph3 =>
  (xo ph3 7 p1).bind fun _ =>
  xb (f_ObjectFile_bindOf F c p1 a1 ph3) fun t4 ph5 =>
  if t4 = (nI 2) then
    f_Scribe_letterOf_20 F c (some p1) t2 (nI 1) ph5
  else
    f_Scribe_letterOf_20 F c (some p1) t2 (nI 0) ph5
theorem r_Scribe_letterOf {l : Launch} {g : px_G} {d F : Nat} {a0 : Option Nat} {a1 : Int32} {ph : px_H} {r : Int32} {ph' : px_H} (h : f_Scribe_letterOf F (px_ct g) a0 a1 ph = some (r, ph')) : PW l g (d + 5) m_Scribe_letterOf 0 [va_rf a0, .int a1, px_u, px_u, px_u, px_u] [] ph (px_qI r ph') := by
  unfold f_Scribe_letterOf at h
  refine px_ld rfl rfl rfl (by first | rfl | (cases a0 <;> rfl)) rfl ?_
  refine px_ld rfl rfl rfl rfl rfl ?_
  obtain ⟨p1, h0, h⟩ := xs_some h
  revert h
  subst h0
  intro h
  obtain ⟨fs, h0, h⟩ := xs_some h
  have e1 := xo_some h0
  obtain ⟨t2, ph3, h0, h⟩ := xb_some h
  refine px_cV1 rfl rfl e1 rfl rfl rfl rfl rfl rfl rfl (r_ObjectFile_whereOf h0 :) (fun _ _ q => nomatch q.2) (fun r ph' q => ?_)
  obtain ⟨rfl, q⟩ := q
  cases q
  refine px_st (lv' := [_, _, _, _, _, _]) rfl rfl rfl rfl rfl rfl rfl ?_
  refine px_ld rfl rfl rfl rfl rfl ?_
  refine px_ld rfl rfl rfl rfl rfl ?_
  obtain ⟨fs, h0, h⟩ := xs_some h
  have e1 := xo_some h0
  obtain ⟨t4, ph5, h0, h⟩ := xb_some h
  refine px_cV1 rfl rfl e1 rfl rfl rfl rfl rfl rfl rfl (r_ObjectFile_bindOf h0 :) (fun _ _ q => nomatch q.2) (fun r ph' q => ?_)
  obtain ⟨rfl, q⟩ := q
  cases q
  refine px_ic (k := 2) rfl rfl rfl ?_
  refine px_icne rfl rfl rfl (fun hc => ?_) (fun hc => ?_)
  · replace h := (if_neg hc).symm.trans h
    refine px_ic (k := 0) rfl rfl rfl ?_
    refine px_forget (n := 1) (lv' := [_, _, _, _, _, _]) rfl ?_
    exact (r_Scribe_letterOf_20 h :)
  · replace h := (if_pos hc).symm.trans h
    refine px_ic (k := 1) rfl rfl rfl ?_
    refine px_goto rfl rfl rfl ?_
    refine px_forget (n := 1) (lv' := [_, _, _, _, _, _]) rfl ?_
    exact (r_Scribe_letterOf_20 h :)
def f_Scribe_writeList_130 (F : Nat) (c : px_CT) (ph : px_H) : Option (Unit × px_H) :=
  some ((), ph)
theorem r_Scribe_writeList_130 {l : Launch} {g : px_G} {d F : Nat} {ph : px_H} {r : Unit} {ph' : px_H} (h : f_Scribe_writeList_130 F (px_ct g) ph = some (r, ph')) : PW l g (d + 6) m_Scribe_writeList 130 [px_u, px_u, px_u, px_u] [] ph (px_qV r ph') := by
  unfold f_Scribe_writeList_130 at h
  cases h
  exact px_vret rfl rfl rfl ⟨rfl, rfl⟩
def f_Scribe_writeList_124 (F : Nat) (c : px_CT) (k6 : Nat → Nat → Option Nat → Int32 → px_H → Option (Unit × px_H)) (a0 : Nat) (a1 : Nat) (a2 : Option Nat) (a3 : Int32) (ph : px_H) : Option (Unit × px_H) :=
  k6 a0 a1 a2 (a3 + nI 1) ph
theorem r_Scribe_writeList_124 {l : Launch} {g : px_G} {d F : Nat} {k6 : Nat → Nat → Option Nat → Int32 → px_H → Option (Unit × px_H)} (hk6 : ∀ {a0 : Nat} {a1 : Nat} {a2 : Option Nat} {a3 : Int32} {ph : px_H} {r : Unit} {ph' : px_H}, k6 a0 a1 a2 a3 ph = some (r, ph') → PW l g (d + 6) m_Scribe_writeList 6 [.ref a0, .ref a1, va_rf a2, .int a3] [] ph (px_qV r ph')) {a0 : Nat} {a1 : Nat} {a2 : Option Nat} {a3 : Int32} {ph : px_H} {r : Unit} {ph' : px_H} (h : f_Scribe_writeList_124 F (px_ct g) k6 a0 a1 a2 a3 ph = some (r, ph')) : PW l g (d + 6) m_Scribe_writeList 124 [.ref a0, .ref a1, va_rf a2, .int a3] [] ph (px_qV r ph') := by
  unfold f_Scribe_writeList_124 at h
  refine px_iinc (lv' := [_, _, _, _]) rfl rfl rfl (by first | rfl | (cases a2 <;> rfl)) rfl rfl ?_
  refine px_goto rfl (by decide) rfl ?_
  exact (hk6 h :)
def f_Scribe_writeList_59 (F : Nat) (c : px_CT) (k6 : Nat → Nat → Option Nat → Int32 → px_H → Option (Unit × px_H)) (a0 : Nat) (a1 : Nat) (a2 : Option Nat) (a3 : Int32) (ph : px_H) : Option (Unit × px_H) :=
  (xo ph 10 a1).bind fun _ =>
  xb (f_Row_put F c a1 (nI 1) ((32 : Int64)) ph) fun _ ph1 =>
  xb (f_Scribe_letterOf F c a2 a3 ph1) fun t2 ph3 =>
  (xo ph3 10 a1).bind fun _ =>
  xb (f_Row_put F c a1 (nI 1) t2.toInt64 ph3) fun _ ph4 =>
  (xo ph4 10 a1).bind fun _ =>
  xb (f_Row_put F c a1 (nI 1) ((32 : Int64)) ph4) fun _ ph5 =>
  (xgR ph5 11 0 a0).bind fun t6 =>
  (xgR ph5 3 11 t6).bind fun t7 =>
  (xgR ph5 11 2 a0).bind fun t8 =>
  (a2).bind fun p9 =>
  (xo ph5 7 p9).bind fun _ =>
  xb (f_ObjectFile_nameStart F c p9 a3 ph5) fun t10 ph11 =>
  (xo ph11 5 t7).bind fun _ =>
  xb (f_Name_read F c t7 t8 t10 ph11) fun _ ph12 =>
  (xgR ph12 11 0 a0).bind fun t13 =>
  (xgR ph12 3 11 t13).bind fun t14 =>
  (xo ph12 5 t14).bind fun _ =>
  xb (f_Name_writeTo F c t14 a1 ph12) fun _ ph15 =>
  (xo ph15 10 a1).bind fun _ =>
  xb (f_Row_put F c a1 (nI 1) ((10 : Int64)) ph15) fun _ ph16 =>
  f_Scribe_writeList_124 F c k6 a0 a1 (some p9) a3 ph16
theorem r_Scribe_writeList_59 {l : Launch} {g : px_G} {d F : Nat} {k6 : Nat → Nat → Option Nat → Int32 → px_H → Option (Unit × px_H)} (hk6 : ∀ {a0 : Nat} {a1 : Nat} {a2 : Option Nat} {a3 : Int32} {ph : px_H} {r : Unit} {ph' : px_H}, k6 a0 a1 a2 a3 ph = some (r, ph') → PW l g (d + 6) m_Scribe_writeList 6 [.ref a0, .ref a1, va_rf a2, .int a3] [] ph (px_qV r ph')) {a0 : Nat} {a1 : Nat} {a2 : Option Nat} {a3 : Int32} {ph : px_H} {r : Unit} {ph' : px_H} (h : f_Scribe_writeList_59 F (px_ct g) k6 a0 a1 a2 a3 ph = some (r, ph')) : PW l g (d + 6) m_Scribe_writeList 59 [.ref a0, .ref a1, va_rf a2, .int a3] [] ph (px_qV r ph') := by
  unfold f_Scribe_writeList_59 at h
  refine px_ld rfl rfl rfl rfl rfl ?_
  refine px_ic (k := 1) rfl rfl rfl ?_
  refine px_ldc2 rfl rfl rfl ?_
  obtain ⟨fs, h0, h⟩ := xs_some h
  have e1 := xo_some h0
  obtain ⟨u0, ph1, h0, h⟩ := xb_some h
  refine px_cV2 rfl rfl e1 rfl rfl rfl rfl rfl rfl rfl (r_Row_put h0 :) (fun _ _ q => nomatch q.2) (fun r ph' q => ?_)
  obtain ⟨rfl, q⟩ := q
  cases q
  refine px_ld rfl rfl rfl rfl rfl ?_
  refine px_ic (k := 1) rfl rfl rfl ?_
  refine px_ld rfl rfl rfl (by first | rfl | (cases a2 <;> rfl)) rfl ?_
  refine px_ld rfl rfl rfl rfl rfl ?_
  obtain ⟨t2, ph3, h0, h⟩ := xb_some h
  refine px_cS2 (lv0 := [va_rf a2, .int a3, px_u, px_u, px_u, px_u]) rfl rfl rfl (by first | rfl | (cases a2 <;> rfl)) rfl (by first | rfl | (cases a2 <;> rfl)) rfl (r_Scribe_letterOf h0 :) (fun _ _ q => nomatch q.2) (fun r ph' q => ?_)
  obtain ⟨rfl, q⟩ := q
  cases q
  refine px_alu rfl rfl rfl ?_
  obtain ⟨fs, h0, h⟩ := xs_some h
  have e1 := xo_some h0
  obtain ⟨u0, ph4, h0, h⟩ := xb_some h
  refine px_cV2 rfl rfl e1 rfl rfl rfl rfl rfl rfl rfl (r_Row_put h0 :) (fun _ _ q => nomatch q.2) (fun r ph' q => ?_)
  obtain ⟨rfl, q⟩ := q
  cases q
  refine px_ld rfl rfl rfl rfl rfl ?_
  refine px_ic (k := 1) rfl rfl rfl ?_
  refine px_ldc2 rfl rfl rfl ?_
  obtain ⟨fs, h0, h⟩ := xs_some h
  have e1 := xo_some h0
  obtain ⟨u0, ph5, h0, h⟩ := xb_some h
  refine px_cV2 rfl rfl e1 rfl rfl rfl rfl rfl rfl rfl (r_Row_put h0 :) (fun _ _ q => nomatch q.2) (fun r ph' q => ?_)
  obtain ⟨rfl, q⟩ := q
  cases q
  refine px_ld rfl rfl rfl rfl rfl ?_
  obtain ⟨t6, h0, h⟩ := xs_some h
  obtain ⟨fs, e1, e2⟩ := xgR_some h0
  refine px_get rfl e1 e2 rfl ?_
  obtain ⟨t7, h0, h⟩ := xs_some h
  obtain ⟨fs, e1, e2⟩ := xgR_some h0
  refine px_get rfl e1 e2 rfl ?_
  refine px_ld rfl rfl rfl rfl rfl ?_
  obtain ⟨t8, h0, h⟩ := xs_some h
  obtain ⟨fs, e1, e2⟩ := xgR_some h0
  refine px_get rfl e1 e2 rfl ?_
  refine px_ld rfl rfl rfl (by first | rfl | (cases a2 <;> rfl)) rfl ?_
  refine px_ld rfl rfl rfl rfl rfl ?_
  obtain ⟨p9, h0, h⟩ := xs_some h
  revert h
  subst h0
  intro h
  obtain ⟨fs, h0, h⟩ := xs_some h
  have e1 := xo_some h0
  obtain ⟨t10, ph11, h0, h⟩ := xb_some h
  refine px_cV1 rfl rfl e1 rfl rfl rfl rfl rfl rfl rfl (r_ObjectFile_nameStart h0 :) (fun _ _ q => nomatch q.2) (fun r ph' q => ?_)
  obtain ⟨rfl, q⟩ := q
  cases q
  obtain ⟨fs, h0, h⟩ := xs_some h
  have e1 := xo_some h0
  obtain ⟨u0, ph12, h0, h⟩ := xb_some h
  refine px_cV2 rfl rfl e1 rfl rfl rfl rfl rfl rfl rfl (r_Name_read h0 :) (fun _ _ q => nomatch q.2) (fun r ph' q => ?_)
  obtain ⟨rfl, q⟩ := q
  cases q
  refine px_ld rfl rfl rfl rfl rfl ?_
  obtain ⟨t13, h0, h⟩ := xs_some h
  obtain ⟨fs, e1, e2⟩ := xgR_some h0
  refine px_get rfl e1 e2 rfl ?_
  obtain ⟨t14, h0, h⟩ := xs_some h
  obtain ⟨fs, e1, e2⟩ := xgR_some h0
  refine px_get rfl e1 e2 rfl ?_
  refine px_ld rfl rfl rfl rfl rfl ?_
  obtain ⟨fs, h0, h⟩ := xs_some h
  have e1 := xo_some h0
  obtain ⟨u0, ph15, h0, h⟩ := xb_some h
  refine px_cV1 rfl rfl e1 rfl rfl rfl rfl rfl rfl rfl (r_Name_writeTo h0 :) (fun _ _ q => nomatch q.2) (fun r ph' q => ?_)
  obtain ⟨rfl, q⟩ := q
  cases q
  refine px_ld rfl rfl rfl rfl rfl ?_
  refine px_ic (k := 1) rfl rfl rfl ?_
  refine px_ldc2 rfl rfl rfl ?_
  obtain ⟨fs, h0, h⟩ := xs_some h
  have e1 := xo_some h0
  obtain ⟨u0, ph16, h0, h⟩ := xb_some h
  refine px_cV2 rfl rfl e1 rfl rfl rfl rfl rfl rfl rfl (r_Row_put h0 :) (fun _ _ q => nomatch q.2) (fun r ph' q => ?_)
  obtain ⟨rfl, q⟩ := q
  cases q
  exact (r_Scribe_writeList_124 @hk6 h :)
def f_Scribe_writeList_6 (F : Nat) (c : px_CT) : Nat → Nat → Nat → Option Nat → Int32 → px_H → Option (Unit × px_H)
  | 0, _, _, _, _, _ => none
  | n + 1, a0, a1, a2, a3, ph =>
    (a2).bind fun p1 =>
    (xgI ph 7 11 p1).bind fun t2 =>
    if t2 ≤ a3 then
      f_Scribe_writeList_130 F c ph
    else
      (xo ph 7 p1).bind fun _ =>
      xb (f_ObjectFile_bindOf F c p1 a3 ph) fun t3 ph4 =>
      if t3 = 0 then
        f_Scribe_writeList_124 F c (f_Scribe_writeList_6 F c n) a0 a1 (some p1) a3 ph4
      else
        (xo ph4 7 p1).bind fun _ =>
        xb (f_ObjectFile_whereOf F c p1 a3 ph4) fun t5 ph6 =>
        if t5 = 0 then
          (xgI ph6 10 1 a1).bind fun t10 =>
          (xo ph6 10 a1).bind fun _ =>
          xb (f_Row_fillTo F c a1 ((t10 + (nI 16)).toInt64) (nI 32) ph6) fun _ ph11 =>
          f_Scribe_writeList_59 F c (f_Scribe_writeList_6 F c n) a0 a1 (some p1) a3 ph11
        else
          (xo ph6 7 p1).bind fun _ =>
          xb (f_ObjectFile_valueOf F c p1 a3 ph6) fun t7 ph8 =>
          (xo ph8 10 a1).bind fun _ =>
          xb (f_Row_putHex F c a1 t7 ph8) fun _ ph9 =>
          f_Scribe_writeList_59 F c (f_Scribe_writeList_6 F c n) a0 a1 (some p1) a3 ph9
theorem r_Scribe_writeList_6 {l : Launch} {g : px_G} {d F : Nat} : ∀ (n : Nat) {a0 : Nat} {a1 : Nat} {a2 : Option Nat} {a3 : Int32} {ph : px_H} {r : Unit} {ph' : px_H}, f_Scribe_writeList_6 F (px_ct g) n a0 a1 a2 a3 ph = some (r, ph') → PW l g (d + 6) m_Scribe_writeList 6 [.ref a0, .ref a1, va_rf a2, .int a3] [] ph (px_qV r ph') := by
  intro n
  induction n with
  | zero => intro _ _ _ _ _ _ _ h; cases h
  | succ n ih =>
    intro a0 a1 a2 a3 ph r ph' h
    unfold f_Scribe_writeList_6 at h
    refine px_ld rfl rfl rfl rfl rfl ?_
    refine px_ld rfl rfl rfl (by first | rfl | (cases a2 <;> rfl)) rfl ?_
    obtain ⟨p1, h0, h⟩ := xs_some h
    revert h
    subst h0
    intro h
    obtain ⟨t2, h0, h⟩ := xs_some h
    obtain ⟨fs, e1, e2⟩ := xgI_some h0
    refine px_get rfl e1 e2 rfl ?_
    refine px_icge rfl (by decide) rfl (fun hc => ?_) (fun hc => ?_)
    · replace h := (if_pos hc).symm.trans h
      refine px_forget (n := 0) (lv' := [_, _, _, _]) rfl ?_
      refine px_forget (n := 1) (lv' := [_, _, _, _]) rfl ?_
      refine px_forget (n := 2) (lv' := [_, _, _, _]) rfl ?_
      refine px_forget (n := 3) (lv' := [_, _, _, _]) rfl ?_
      exact (r_Scribe_writeList_130 h :)
    · replace h := (if_neg hc).symm.trans h
      refine px_ld rfl rfl rfl rfl rfl ?_
      refine px_ld rfl rfl rfl rfl rfl ?_
      obtain ⟨fs, h0, h⟩ := xs_some h
      have e1 := xo_some h0
      obtain ⟨t3, ph4, h0, h⟩ := xb_some h
      refine px_cV1 rfl rfl e1 rfl rfl rfl rfl rfl rfl rfl (r_ObjectFile_bindOf h0 :) (fun _ _ q => nomatch q.2) (fun r ph' q => ?_)
      obtain ⟨rfl, q⟩ := q
      cases q
      refine px_ifne rfl (by decide) rfl (fun hc => ?_) (fun hc => ?_)
      · replace h := (if_neg hc).symm.trans h
        refine px_ld rfl rfl rfl rfl rfl ?_
        refine px_ld rfl rfl rfl rfl rfl ?_
        obtain ⟨fs, h0, h⟩ := xs_some h
        have e1 := xo_some h0
        obtain ⟨t5, ph6, h0, h⟩ := xb_some h
        refine px_cV1 rfl rfl e1 rfl rfl rfl rfl rfl rfl rfl (r_ObjectFile_whereOf h0 :) (fun _ _ q => nomatch q.2) (fun r ph' q => ?_)
        obtain ⟨rfl, q⟩ := q
        cases q
        refine px_ifne rfl (by decide) rfl (fun hc => ?_) (fun hc => ?_)
        · replace h := (if_neg hc).symm.trans h
          refine px_ld rfl rfl rfl rfl rfl ?_
          refine px_ld rfl rfl rfl rfl rfl ?_
          refine px_ld rfl rfl rfl rfl rfl ?_
          obtain ⟨fs, h0, h⟩ := xs_some h
          have e1 := xo_some h0
          obtain ⟨t7, ph8, h0, h⟩ := xb_some h
          refine px_cV1 rfl rfl e1 rfl rfl rfl rfl rfl rfl rfl (r_ObjectFile_valueOf h0 :) (fun _ _ q => nomatch q.2) (fun r ph' q => ?_)
          obtain ⟨rfl, q⟩ := q
          cases q
          obtain ⟨fs, h0, h⟩ := xs_some h
          have e1 := xo_some h0
          obtain ⟨u0, ph9, h0, h⟩ := xb_some h
          refine px_cV1 rfl rfl e1 rfl rfl rfl rfl rfl rfl rfl (r_Row_putHex h0 :) (fun _ _ q => nomatch q.2) (fun r ph' q => ?_)
          obtain ⟨rfl, q⟩ := q
          cases q
          exact (r_Scribe_writeList_59 @ih h :)
        · replace h := (if_pos hc).symm.trans h
          refine px_ld rfl rfl rfl rfl rfl ?_
          refine px_ld rfl rfl rfl rfl rfl ?_
          obtain ⟨t10, h0, h⟩ := xs_some h
          obtain ⟨fs, e1, e2⟩ := xgI_some h0
          refine px_get rfl e1 e2 rfl ?_
          refine px_ic (k := 16) rfl rfl rfl ?_
          refine px_alu rfl rfl rfl ?_
          refine px_alu rfl rfl rfl ?_
          refine px_ic (k := 32) rfl rfl rfl ?_
          obtain ⟨fs, h0, h⟩ := xs_some h
          have e1 := xo_some h0
          obtain ⟨u0, ph11, h0, h⟩ := xb_some h
          refine px_cV2 rfl rfl e1 rfl rfl rfl rfl rfl rfl rfl (r_Row_fillTo h0 :) (fun _ _ q => nomatch q.2) (fun r ph' q => ?_)
          obtain ⟨rfl, q⟩ := q
          cases q
          refine px_goto rfl (by decide) rfl ?_
          exact (r_Scribe_writeList_59 @ih h :)
      · replace h := (if_pos hc).symm.trans h
        refine px_goto rfl (by decide) rfl ?_
        exact (r_Scribe_writeList_124 @ih h :)
def f_Scribe_writeList (F : Nat) (c : px_CT) (a0 : Nat) (a1 : Nat) (a2 : Option Nat) (ph : px_H) : Option (Unit × px_H) :=
  (xo ph 10 a1).bind fun _ =>
  xb (f_Row_clear F c a1 ph) fun _ ph1 =>
  f_Scribe_writeList_6 F c F a0 a1 a2 (nI 1) ph1
theorem r_Scribe_writeList {l : Launch} {g : px_G} {d F : Nat} {a0 : Nat} {a1 : Nat} {a2 : Option Nat} {ph : px_H} {r : Unit} {ph' : px_H} (h : f_Scribe_writeList F (px_ct g) a0 a1 a2 ph = some (r, ph')) : PW l g (d + 6) m_Scribe_writeList 0 [.ref a0, .ref a1, va_rf a2, px_u] [] ph (px_qV r ph') := by
  unfold f_Scribe_writeList at h
  refine px_ld rfl rfl rfl rfl rfl ?_
  obtain ⟨fs, h0, h⟩ := xs_some h
  have e1 := xo_some h0
  obtain ⟨u0, ph1, h0, h⟩ := xb_some h
  refine px_cV0 rfl rfl e1 rfl rfl rfl rfl rfl rfl rfl (r_Row_clear h0 :) (fun _ _ q => nomatch q.2) (fun r ph' q => ?_)
  obtain ⟨rfl, q⟩ := q
  cases q
  refine px_ic (k := 1) rfl rfl rfl ?_
  refine px_st (lv' := [.ref a0, .ref a1, va_rf a2, .int (nI 1)]) rfl rfl rfl rfl (by first | rfl | (cases a2 <;> rfl)) rfl rfl ?_
  exact (r_Scribe_writeList_6 _ h :)
def f_H_list (F : Nat) (c : px_CT) (a0 : Nat) (a1 : Int32) (a2 : Int32) (ph : px_H) : Option (Int32 × px_H) :=
  (xo ph 0 a0).bind fun _ =>
  xb (f_H_objectAt F c a0 a1 a2 ph) fun t1 ph2 =>
  (match t1 with
    | none => none
    | some p3 => (xgR ph2 0 15 a0).bind fun t4 =>
    (xgR ph2 0 1 a0).bind fun t5 =>
    (xo ph2 11 t4).bind fun _ =>
    xb (f_Scribe_writeList F c t4 t5 (some p3) ph2) fun _ ph6 =>
    (xgR ph6 0 1 a0).bind fun t7 =>
    (xgI ph6 10 1 t7).bind fun t8 =>
    some (t8, ph6))
theorem r_H_list {l : Launch} {g : px_G} {d F : Nat} {a0 : Nat} {a1 : Int32} {a2 : Int32} {ph : px_H} {r : Int32} {ph' : px_H} (h : f_H_list F (px_ct g) a0 a1 a2 ph = some (r, ph')) : PW l g (d + 7) m_H_list 0 [.ref a0, .int a1, .int a2, px_u] [] ph (px_qI r ph') := by
  unfold f_H_list at h
  refine px_ld rfl rfl rfl rfl rfl ?_
  refine px_ld rfl rfl rfl rfl rfl ?_
  refine px_ld rfl rfl rfl rfl rfl ?_
  obtain ⟨fs, h0, h⟩ := xs_some h
  have e1 := xo_some h0
  obtain ⟨t1, ph2, h0, h⟩ := xb_some h
  refine px_cV2 rfl rfl e1 rfl rfl rfl rfl rfl rfl rfl (r_H_objectAt h0 :) (fun _ _ q => nomatch q.2) (fun r ph' q => ?_)
  obtain ⟨rfl, q⟩ := q
  cases q
  refine px_st (lv' := [.ref a0, .int a1, .int a2, va_rf t1]) rfl rfl (by first | rfl | (cases t1 <;> rfl)) (by first | rfl | (cases t1 <;> rfl)) rfl (by first | rfl | (cases t1 <;> rfl)) rfl ?_
  refine px_ld rfl rfl rfl (by first | rfl | (cases t1 <;> rfl)) rfl ?_
  cases t1 with
  | none =>
    refine px_ifnnN rfl rfl ?_
    cases h
  | some p3 =>
    refine px_ifnnR rfl rfl rfl ?_
    refine px_ld rfl rfl rfl rfl rfl ?_
    obtain ⟨t4, h0, h⟩ := xs_some h
    obtain ⟨fs, e1, e2⟩ := xgR_some h0
    refine px_get rfl e1 e2 rfl ?_
    refine px_ld rfl rfl rfl rfl rfl ?_
    obtain ⟨t5, h0, h⟩ := xs_some h
    obtain ⟨fs, e1, e2⟩ := xgR_some h0
    refine px_get rfl e1 e2 rfl ?_
    refine px_ld rfl rfl rfl rfl rfl ?_
    obtain ⟨fs, h0, h⟩ := xs_some h
    have e1 := xo_some h0
    obtain ⟨u0, ph6, h0, h⟩ := xb_some h
    refine px_cV2 rfl rfl e1 rfl rfl rfl rfl rfl rfl rfl (r_Scribe_writeList h0 :) (fun _ _ q => nomatch q.2) (fun r ph' q => ?_)
    obtain ⟨rfl, q⟩ := q
    cases q
    refine px_ld rfl rfl rfl rfl rfl ?_
    obtain ⟨t7, h0, h⟩ := xs_some h
    obtain ⟨fs, e1, e2⟩ := xgR_some h0
    refine px_get rfl e1 e2 rfl ?_
    obtain ⟨t8, h0, h⟩ := xs_some h
    obtain ⟨fs, e1, e2⟩ := xgI_some h0
    refine px_get rfl e1 e2 rfl ?_
    cases h
    exact px_iret rfl (Or.inl rfl) rfl ⟨rfl, rfl⟩
def f_H_sum_78 (F : Nat) (c : px_CT) (a5 : Int64) (ph : px_H) : Option (Int64 × px_H) :=
  some (a5, ph)
theorem r_H_sum_78 {l : Launch} {g : px_G} {d F : Nat} {a5 : Int64} {ph : px_H} {r : Int64} {ph' : px_H} (h : f_H_sum_78 F (px_ct g) a5 ph = some (r, ph')) : PW l g (d + 2) m_H_sum 78 [px_u, px_u, px_u, px_u, px_u, .long a5, px_u, px_u] [] ph (px_qJ r ph') := by
  unfold f_H_sum_78 at h
  refine px_ld rfl rfl rfl rfl rfl ?_
  cases h
  exact px_lret rfl rfl rfl ⟨rfl, rfl⟩
def f_H_sum_72 (F : Nat) (c : px_CT) (k38 : Int32 → Option Nat → Int64 → Int32 → px_H → Option (Int64 × px_H)) (a3 : Int32) (a4 : Option Nat) (a5 : Int64) (a7 : Int32) (ph : px_H) : Option (Int64 × px_H) :=
  k38 a3 a4 a5 (a7 + nI 1) ph
theorem r_H_sum_72 {l : Launch} {g : px_G} {d F : Nat} {k38 : Int32 → Option Nat → Int64 → Int32 → px_H → Option (Int64 × px_H)} (hk38 : ∀ {a3 : Int32} {a4 : Option Nat} {a5 : Int64} {a7 : Int32} {ph : px_H} {r : Int64} {ph' : px_H}, k38 a3 a4 a5 a7 ph = some (r, ph') → PW l g (d + 2) m_H_sum 38 [px_u, px_u, px_u, .int a3, va_rf a4, .long a5, px_u, .int a7] [] ph (px_qJ r ph')) {a3 : Int32} {a4 : Option Nat} {a5 : Int64} {a7 : Int32} {ph : px_H} {r : Int64} {ph' : px_H} (h : f_H_sum_72 F (px_ct g) k38 a3 a4 a5 a7 ph = some (r, ph')) : PW l g (d + 2) m_H_sum 72 [px_u, px_u, px_u, .int a3, va_rf a4, .long a5, px_u, .int a7] [] ph (px_qJ r ph') := by
  unfold f_H_sum_72 at h
  refine px_iinc (lv' := [_, _, _, _, _, _, _, _]) rfl rfl rfl rfl rfl rfl ?_
  refine px_goto rfl rfl rfl ?_
  exact (hk38 h :)
def f_H_sum_38 (F : Nat) (c : px_CT) : Nat → Int32 → Option Nat → Int64 → Int32 → px_H → Option (Int64 × px_H)
  | 0, _, _, _, _, _ => none
  | n + 1, a3, a4, a5, a7, ph =>
    (a4).bind fun p1 =>
    (xgI ph 7 8 p1).bind fun t2 =>
    if t2 ≤ a7 then
      f_H_sum_78 F c a5 ph
    else
      (xo ph 7 p1).bind fun _ =>
      xb (f_ObjectFile_groupOf F c p1 a7.toInt64 ph) fun t3 ph4 =>
      if t3 = a3 then
        (xo ph4 7 p1).bind fun _ =>
        xb (f_ObjectFile_lengthOf F c p1 a7 ph4) fun t5 ph6 =>
        f_H_sum_72 F c (f_H_sum_38 F c n) a3 (some p1) (a5 + t5) a7 ph6
      else
        f_H_sum_72 F c (f_H_sum_38 F c n) a3 (some p1) a5 a7 ph4
theorem r_H_sum_38 {l : Launch} {g : px_G} {d F : Nat} : ∀ (n : Nat) {a3 : Int32} {a4 : Option Nat} {a5 : Int64} {a7 : Int32} {ph : px_H} {r : Int64} {ph' : px_H}, f_H_sum_38 F (px_ct g) n a3 a4 a5 a7 ph = some (r, ph') → PW l g (d + 2) m_H_sum 38 [px_u, px_u, px_u, .int a3, va_rf a4, .long a5, px_u, .int a7] [] ph (px_qJ r ph') := by
  intro n
  induction n with
  | zero => intro _ _ _ _ _ _ _ h; cases h
  | succ n ih =>
    intro a3 a4 a5 a7 ph r ph' h
    unfold f_H_sum_38 at h
    refine px_ld rfl rfl rfl rfl rfl ?_
    refine px_ld rfl rfl rfl (by first | rfl | (cases a4 <;> rfl)) rfl ?_
    obtain ⟨p1, h0, h⟩ := xs_some h
    revert h
    subst h0
    intro h
    obtain ⟨t2, h0, h⟩ := xs_some h
    obtain ⟨fs, e1, e2⟩ := xgI_some h0
    refine px_get rfl e1 e2 rfl ?_
    refine px_icge rfl rfl rfl (fun hc => ?_) (fun hc => ?_)
    · replace h := (if_pos hc).symm.trans h
      refine px_forget (n := 3) (lv' := [_, _, _, _, _, _, _, _]) rfl ?_
      refine px_forget (n := 4) (lv' := [_, _, _, _, _, _, _, _]) rfl ?_
      refine px_forget (n := 7) (lv' := [_, _, _, _, _, _, _, _]) rfl ?_
      exact (r_H_sum_78 h :)
    · replace h := (if_neg hc).symm.trans h
      refine px_ld rfl rfl rfl rfl rfl ?_
      refine px_ld rfl rfl rfl rfl rfl ?_
      refine px_alu rfl rfl rfl ?_
      obtain ⟨fs, h0, h⟩ := xs_some h
      have e1 := xo_some h0
      obtain ⟨t3, ph4, h0, h⟩ := xb_some h
      refine px_cV1 rfl rfl e1 rfl rfl rfl rfl rfl rfl rfl (r_ObjectFile_groupOf h0 :) (fun _ _ q => nomatch q.2) (fun r ph' q => ?_)
      obtain ⟨rfl, q⟩ := q
      cases q
      refine px_ld rfl rfl rfl rfl rfl ?_
      refine px_icne rfl rfl rfl (fun hc => ?_) (fun hc => ?_)
      · replace h := (if_neg hc).symm.trans h
        exact (r_H_sum_72 @ih h :)
      · replace h := (if_pos hc).symm.trans h
        refine px_ld rfl rfl rfl rfl rfl ?_
        refine px_ld rfl rfl rfl rfl rfl ?_
        refine px_ld rfl rfl rfl rfl rfl ?_
        obtain ⟨fs, h0, h⟩ := xs_some h
        have e1 := xo_some h0
        obtain ⟨t5, ph6, h0, h⟩ := xb_some h
        refine px_cV1 rfl rfl e1 rfl rfl rfl rfl rfl rfl rfl (r_ObjectFile_lengthOf h0 :) (fun _ _ q => nomatch q.2) (fun r ph' q => ?_)
        obtain ⟨rfl, q⟩ := q
        cases q
        refine px_alu rfl rfl rfl ?_
        refine px_st (lv' := [_, _, _, _, _, _, _, _]) rfl rfl rfl rfl rfl rfl rfl ?_
        exact (r_H_sum_72 @ih h :)
def f_H_sum_22 (F : Nat) (c : px_CT) (ph : px_H) : Option (Int64 × px_H) :=
  none
theorem r_H_sum_22 {l : Launch} {g : px_G} {d F : Nat} {ph : px_H} {r : Int64} {ph' : px_H} (h : f_H_sum_22 F (px_ct g) ph = some (r, ph')) : PW l g (d + 2) m_H_sum 22 [px_u, px_u, px_u, px_u, px_u, px_u, px_u, px_u] [] ph (px_qJ r ph') := by
  unfold f_H_sum_22 at h
  cases h
def f_H_sum (F : Nat) (c : px_CT) (a0 : Nat) (a1 : Int32) (a2 : Int32) (a3 : Int32) (ph : px_H) : Option (Int64 × px_H) :=
  (xo ph 0 a0).bind fun _ =>
  xb (f_H_objectAt F c a0 a1 a2 ph) fun t1 ph2 =>
  (match t1 with
    | none => f_H_sum_22 F c ph2
    | some p3 => if a3 < 0 then
      f_H_sum_22 F c ph2
    else
      if a3 ≤ (nI 5) then
        f_H_sum_38 F c F a3 (some p3) (lN 0) (nI 0) ph2
      else
        f_H_sum_22 F c ph2)
theorem r_H_sum {l : Launch} {g : px_G} {d F : Nat} {a0 : Nat} {a1 : Int32} {a2 : Int32} {a3 : Int32} {ph : px_H} {r : Int64} {ph' : px_H} (h : f_H_sum F (px_ct g) a0 a1 a2 a3 ph = some (r, ph')) : PW l g (d + 2) m_H_sum 0 [.ref a0, .int a1, .int a2, .int a3, px_u, px_u, px_u, px_u] [] ph (px_qJ r ph') := by
  unfold f_H_sum at h
  refine px_ld rfl rfl rfl rfl rfl ?_
  refine px_ld rfl rfl rfl rfl rfl ?_
  refine px_ld rfl rfl rfl rfl rfl ?_
  obtain ⟨fs, h0, h⟩ := xs_some h
  have e1 := xo_some h0
  obtain ⟨t1, ph2, h0, h⟩ := xb_some h
  refine px_cV2 rfl rfl e1 rfl rfl rfl rfl rfl rfl rfl (r_H_objectAt h0 :) (fun _ _ q => nomatch q.2) (fun r ph' q => ?_)
  obtain ⟨rfl, q⟩ := q
  cases q
  refine px_st (lv' := [.ref a0, .int a1, .int a2, .int a3, va_rf t1, px_u, px_u, px_u]) rfl rfl (by first | rfl | (cases t1 <;> rfl)) (by first | rfl | (cases t1 <;> rfl)) rfl (by first | rfl | (cases t1 <;> rfl)) rfl ?_
  refine px_ld rfl rfl rfl (by first | rfl | (cases t1 <;> rfl)) rfl ?_
  cases t1 with
  | none =>
    refine px_ifnullN rfl rfl rfl ?_
    refine px_forget (n := 0) (lv' := [_, _, _, _, _, _, _, _]) rfl ?_
    refine px_forget (n := 1) (lv' := [_, _, _, _, _, _, _, _]) rfl ?_
    refine px_forget (n := 2) (lv' := [_, _, _, _, _, _, _, _]) rfl ?_
    refine px_forget (n := 3) (lv' := [_, _, _, _, _, _, _, _]) rfl ?_
    refine px_forget (n := 4) (lv' := [_, _, _, _, _, _, _, _]) rfl ?_
    exact (r_H_sum_22 h :)
  | some p3 =>
    refine px_ifnullR rfl rfl ?_
    refine px_ld rfl rfl rfl rfl rfl ?_
    refine px_iflt rfl rfl rfl (fun hc => ?_) (fun hc => ?_)
    · replace h := (if_pos hc).symm.trans h
      refine px_forget (n := 0) (lv' := [_, _, _, _, _, _, _, _]) rfl ?_
      refine px_forget (n := 1) (lv' := [_, _, _, _, _, _, _, _]) rfl ?_
      refine px_forget (n := 2) (lv' := [_, _, _, _, _, _, _, _]) rfl ?_
      refine px_forget (n := 3) (lv' := [_, _, _, _, _, _, _, _]) rfl ?_
      refine px_forget (n := 4) (lv' := [_, _, _, _, _, _, _, _]) rfl ?_
      exact (r_H_sum_22 h :)
    · replace h := (if_neg hc).symm.trans h
      refine px_ld rfl rfl rfl rfl rfl ?_
      refine px_ic (k := 5) rfl rfl rfl ?_
      refine px_icle rfl rfl rfl (fun hc => ?_) (fun hc => ?_)
      · replace h := (if_pos hc).symm.trans h
        refine px_alu rfl rfl rfl ?_
        refine px_st (lv' := [_, _, _, _, _, _, _, _]) rfl rfl rfl rfl rfl rfl rfl ?_
        refine px_ic (k := 0) rfl rfl rfl ?_
        refine px_st (lv' := [_, _, _, _, _, _, _, _]) rfl rfl rfl rfl rfl rfl rfl ?_
        refine px_forget (n := 0) (lv' := [_, _, _, _, _, _, _, _]) rfl ?_
        refine px_forget (n := 1) (lv' := [_, _, _, _, _, _, _, _]) rfl ?_
        refine px_forget (n := 2) (lv' := [_, _, _, _, _, _, _, _]) rfl ?_
        exact (r_H_sum_38 _ h :)
      · replace h := (if_neg hc).symm.trans h
        refine px_forget (n := 0) (lv' := [_, _, _, _, _, _, _, _]) rfl ?_
        refine px_forget (n := 1) (lv' := [_, _, _, _, _, _, _, _]) rfl ?_
        refine px_forget (n := 2) (lv' := [_, _, _, _, _, _, _, _]) rfl ?_
        refine px_forget (n := 3) (lv' := [_, _, _, _, _, _, _, _]) rfl ?_
        refine px_forget (n := 4) (lv' := [_, _, _, _, _, _, _, _]) rfl ?_
        exact (r_H_sum_22 h :)
def f_Scribe_writeMap_197 (F : Nat) (c : px_CT) (s0 : Int32) (ph : px_H) : Option (Int32 × px_H) :=
  xz s0 ph
theorem r_Scribe_writeMap_197 {l : Launch} {g : px_G} {d F : Nat} {s0 : Int32} {ph : px_H} {r : Int32} {ph' : px_H} (h : f_Scribe_writeMap_197 F (px_ct g) s0 ph = some (r, ph')) : PW l g (d + 2) m_Scribe_writeMap 197 [px_u, px_u, px_u, px_u] [.int s0] ph (px_qI r ph') := by
  unfold f_Scribe_writeMap_197 at h
  obtain ⟨e0, e1, e2⟩ := xz_some h
  subst e1 e2
  exact px_iret rfl (Or.inr ⟨rfl, e0⟩) rfl ⟨rfl, rfl⟩
def f_Scribe_writeMap_185 (F : Nat) (c : px_CT) (a1 : Nat) (ph : px_H) : Option (Int32 × px_H) :=
  (xgI ph 10 2 a1).bind fun t1 =>
  if t1 = 0 then
    f_Scribe_writeMap_197 F c (nI 1) ph
  else
    f_Scribe_writeMap_197 F c (nI 0) ph
theorem r_Scribe_writeMap_185 {l : Launch} {g : px_G} {d F : Nat} {a1 : Nat} {ph : px_H} {r : Int32} {ph' : px_H} (h : f_Scribe_writeMap_185 F (px_ct g) a1 ph = some (r, ph')) : PW l g (d + 2) m_Scribe_writeMap 185 [px_u, .ref a1, px_u, px_u] [] ph (px_qI r ph') := by
  unfold f_Scribe_writeMap_185 at h
  refine px_ld rfl rfl rfl rfl rfl ?_
  obtain ⟨t1, h0, h⟩ := xs_some h
  obtain ⟨fs, e1, e2⟩ := xgI_some h0
  refine px_get rfl e1 e2 rfl ?_
  refine px_ifne rfl (by decide) rfl (fun hc => ?_) (fun hc => ?_)
  · replace h := (if_neg hc).symm.trans h
    refine px_ic (k := 0) rfl rfl rfl ?_
    refine px_forget (n := 1) (lv' := [_, _, _, _]) rfl ?_
    exact (r_Scribe_writeMap_197 h :)
  · replace h := (if_pos hc).symm.trans h
    refine px_ic (k := 1) rfl rfl rfl ?_
    refine px_goto rfl (by decide) rfl ?_
    refine px_forget (n := 1) (lv' := [_, _, _, _]) rfl ?_
    exact (r_Scribe_writeMap_197 h :)
def f_Scribe_writeMap_130 (F : Nat) (c : px_CT) : Nat → Nat → Nat → Int32 → px_H → Option (Int32 × px_H)
  | 0, _, _, _, _ => none
  | n + 1, a0, a1, a2, ph =>
    (xgR ph 11 0 a0).bind fun t1 =>
    (xgI ph 3 15 t1).bind fun t2 =>
    if t2 ≤ a2 then
      f_Scribe_writeMap_185 F c a1 ph
    else
      (xgR ph 11 0 a0).bind fun t3 =>
      (xo ph 3 t3).bind fun _ =>
      xb (f_Link_definedAt F c t3 a2 ph) fun t4 ph5 =>
      (t4).bind fun p6 =>
      (xgJ ph5 5 14 p6).bind fun t7 =>
      (xo ph5 10 a1).bind fun _ =>
      xb (f_Row_putHex F c a1 t7 ph5) fun _ ph8 =>
      (xo ph8 10 a1).bind fun _ =>
      xb (f_Row_put F c a1 (nI 1) ((32 : Int64)) ph8) fun _ ph9 =>
      (xo ph9 5 p6).bind fun _ =>
      xb (f_Name_writeTo F c p6 a1 ph9) fun _ ph10 =>
      (xo ph10 10 a1).bind fun _ =>
      xb (f_Row_put F c a1 (nI 1) ((10 : Int64)) ph10) fun _ ph11 =>
      f_Scribe_writeMap_130 F c n a0 a1 (a2 + nI 1) ph11
theorem r_Scribe_writeMap_130 {l : Launch} {g : px_G} {d F : Nat} : ∀ (n : Nat) {a0 : Nat} {a1 : Nat} {a2 : Int32} {ph : px_H} {r : Int32} {ph' : px_H}, f_Scribe_writeMap_130 F (px_ct g) n a0 a1 a2 ph = some (r, ph') → PW l g (d + 2) m_Scribe_writeMap 130 [.ref a0, .ref a1, .int a2, px_u] [] ph (px_qI r ph') := by
  intro n
  induction n with
  | zero => intro _ _ _ _ _ _ h; cases h
  | succ n ih =>
    intro a0 a1 a2 ph r ph' h
    unfold f_Scribe_writeMap_130 at h
    refine px_ld rfl rfl rfl rfl rfl ?_
    refine px_ld rfl rfl rfl rfl rfl ?_
    obtain ⟨t1, h0, h⟩ := xs_some h
    obtain ⟨fs, e1, e2⟩ := xgR_some h0
    refine px_get rfl e1 e2 rfl ?_
    obtain ⟨t2, h0, h⟩ := xs_some h
    obtain ⟨fs, e1, e2⟩ := xgI_some h0
    refine px_get rfl e1 e2 rfl ?_
    refine px_icge rfl (by decide) rfl (fun hc => ?_) (fun hc => ?_)
    · replace h := (if_pos hc).symm.trans h
      refine px_forget (n := 0) (lv' := [_, _, _, _]) rfl ?_
      refine px_forget (n := 2) (lv' := [_, _, _, _]) rfl ?_
      exact (r_Scribe_writeMap_185 h :)
    · replace h := (if_neg hc).symm.trans h
      refine px_ld rfl rfl rfl rfl rfl ?_
      obtain ⟨t3, h0, h⟩ := xs_some h
      obtain ⟨fs, e1, e2⟩ := xgR_some h0
      refine px_get rfl e1 e2 rfl ?_
      refine px_ld rfl rfl rfl rfl rfl ?_
      obtain ⟨fs, h0, h⟩ := xs_some h
      have e1 := xo_some h0
      obtain ⟨t4, ph5, h0, h⟩ := xb_some h
      refine px_cV1 rfl rfl e1 rfl rfl rfl rfl rfl rfl rfl (r_Link_definedAt h0 :) (fun _ _ q => nomatch q.2) (fun r ph' q => ?_)
      obtain ⟨rfl, q⟩ := q
      cases q
      refine px_st (lv' := [.ref a0, .ref a1, .int a2, va_rf t4]) rfl rfl (by first | rfl | (cases t4 <;> rfl)) (by first | rfl | (cases t4 <;> rfl)) rfl (by first | rfl | (cases t4 <;> rfl)) rfl ?_
      refine px_ld rfl rfl rfl rfl rfl ?_
      refine px_ld rfl rfl rfl (by first | rfl | (cases t4 <;> rfl)) rfl ?_
      obtain ⟨p6, h0, h⟩ := xs_some h
      revert h
      subst h0
      intro h
      obtain ⟨t7, h0, h⟩ := xs_some h
      obtain ⟨fs, e1, e2⟩ := xgJ_some h0
      refine px_get rfl e1 e2 rfl ?_
      obtain ⟨fs, h0, h⟩ := xs_some h
      have e1 := xo_some h0
      obtain ⟨u0, ph8, h0, h⟩ := xb_some h
      refine px_cV1 rfl rfl e1 rfl rfl rfl rfl rfl rfl rfl (r_Row_putHex h0 :) (fun _ _ q => nomatch q.2) (fun r ph' q => ?_)
      obtain ⟨rfl, q⟩ := q
      cases q
      refine px_ld rfl rfl rfl rfl rfl ?_
      refine px_ic (k := 1) rfl rfl rfl ?_
      refine px_ldc2 rfl rfl rfl ?_
      obtain ⟨fs, h0, h⟩ := xs_some h
      have e1 := xo_some h0
      obtain ⟨u0, ph9, h0, h⟩ := xb_some h
      refine px_cV2 rfl rfl e1 rfl rfl rfl rfl rfl rfl rfl (r_Row_put h0 :) (fun _ _ q => nomatch q.2) (fun r ph' q => ?_)
      obtain ⟨rfl, q⟩ := q
      cases q
      refine px_ld rfl rfl rfl rfl rfl ?_
      refine px_ld rfl rfl rfl rfl rfl ?_
      obtain ⟨fs, h0, h⟩ := xs_some h
      have e1 := xo_some h0
      obtain ⟨u0, ph10, h0, h⟩ := xb_some h
      refine px_cV1 rfl rfl e1 rfl rfl rfl rfl rfl rfl rfl (r_Name_writeTo h0 :) (fun _ _ q => nomatch q.2) (fun r ph' q => ?_)
      obtain ⟨rfl, q⟩ := q
      cases q
      refine px_ld rfl rfl rfl rfl rfl ?_
      refine px_ic (k := 1) rfl rfl rfl ?_
      refine px_ldc2 rfl rfl rfl ?_
      obtain ⟨fs, h0, h⟩ := xs_some h
      have e1 := xo_some h0
      obtain ⟨u0, ph11, h0, h⟩ := xb_some h
      refine px_cV2 rfl rfl e1 rfl rfl rfl rfl rfl rfl rfl (r_Row_put h0 :) (fun _ _ q => nomatch q.2) (fun r ph' q => ?_)
      obtain ⟨rfl, q⟩ := q
      cases q
      refine px_iinc (lv' := [_, _, _, _]) rfl rfl rfl rfl rfl rfl ?_
      refine px_goto rfl (by decide) rfl ?_
      refine px_forget (n := 3) (lv' := [_, _, _, _]) rfl ?_
      exact (ih h :)
def f_Scribe_writeMap_128 (F : Nat) (c : px_CT) (a0 : Nat) (a1 : Nat) (ph : px_H) : Option (Int32 × px_H) :=
  f_Scribe_writeMap_130 F c F a0 a1 (nI 0) ph
theorem r_Scribe_writeMap_128 {l : Launch} {g : px_G} {d F : Nat} {a0 : Nat} {a1 : Nat} {ph : px_H} {r : Int32} {ph' : px_H} (h : f_Scribe_writeMap_128 F (px_ct g) a0 a1 ph = some (r, ph')) : PW l g (d + 2) m_Scribe_writeMap 128 [.ref a0, .ref a1, px_u, px_u] [] ph (px_qI r ph') := by
  unfold f_Scribe_writeMap_128 at h
  refine px_ic (k := 0) rfl rfl rfl ?_
  refine px_st (lv' := [_, _, _, _]) rfl rfl rfl rfl rfl rfl rfl ?_
  exact (r_Scribe_writeMap_130 _ h :)
def f_Scribe_writeMap_6 (F : Nat) (c : px_CT) : Nat → Nat → Nat → Int32 → px_H → Option (Int32 × px_H)
  | 0, _, _, _, _ => none
  | n + 1, a0, a1, a2, ph =>
    (xgR ph 11 1 a0).bind fun t1 =>
    (xgI ph 2 11 t1).bind fun t2 =>
    if t2 ≤ a2 then
      f_Scribe_writeMap_128 F c a0 a1 ph
    else
      (xgR ph 11 1 a0).bind fun t3 =>
      (xo ph 2 t3).bind fun _ =>
      xb (f_Layout_partAt F c t3 a2 ph) fun t4 ph5 =>
      (t4).bind fun p6 =>
      (xgJ ph5 8 11 p6).bind fun t7 =>
      (xo ph5 10 a1).bind fun _ =>
      xb (f_Row_putHex F c a1 t7 ph5) fun _ ph8 =>
      (xo ph8 10 a1).bind fun _ =>
      xb (f_Row_put F c a1 (nI 1) ((32 : Int64)) ph8) fun _ ph9 =>
      (xgI ph9 8 5 p6).bind fun t10 =>
      (xo ph9 10 a1).bind fun _ =>
      xb (f_Row_putDecimal F c a1 t10 ph9) fun _ ph11 =>
      (xo ph11 10 a1).bind fun _ =>
      xb (f_Row_put F c a1 (nI 1) ((32 : Int64)) ph11) fun _ ph12 =>
      (xgI ph12 8 4 p6).bind fun t13 =>
      (xo ph12 10 a1).bind fun _ =>
      xb (f_Row_putDecimal F c a1 t13 ph12) fun _ ph14 =>
      (xo ph14 10 a1).bind fun _ =>
      xb (f_Row_put F c a1 (nI 1) ((32 : Int64)) ph14) fun _ ph15 =>
      (xgI ph15 8 1 p6).bind fun t16 =>
      (xo ph15 10 a1).bind fun _ =>
      xb (f_Row_putDecimal F c a1 t16 ph15) fun _ ph17 =>
      (xo ph17 10 a1).bind fun _ =>
      xb (f_Row_put F c a1 (nI 1) ((46 : Int64)) ph17) fun _ ph18 =>
      (xgI ph18 8 2 p6).bind fun t19 =>
      (xo ph18 10 a1).bind fun _ =>
      xb (f_Row_putDecimal F c a1 t19 ph18) fun _ ph20 =>
      (xo ph20 10 a1).bind fun _ =>
      xb (f_Row_put F c a1 (nI 1) ((46 : Int64)) ph20) fun _ ph21 =>
      (xgI ph21 8 3 p6).bind fun t22 =>
      (xo ph21 10 a1).bind fun _ =>
      xb (f_Row_putDecimal F c a1 t22 ph21) fun _ ph23 =>
      (xo ph23 10 a1).bind fun _ =>
      xb (f_Row_put F c a1 (nI 1) ((10 : Int64)) ph23) fun _ ph24 =>
      f_Scribe_writeMap_6 F c n a0 a1 (a2 + nI 1) ph24
theorem r_Scribe_writeMap_6 {l : Launch} {g : px_G} {d F : Nat} : ∀ (n : Nat) {a0 : Nat} {a1 : Nat} {a2 : Int32} {ph : px_H} {r : Int32} {ph' : px_H}, f_Scribe_writeMap_6 F (px_ct g) n a0 a1 a2 ph = some (r, ph') → PW l g (d + 2) m_Scribe_writeMap 6 [.ref a0, .ref a1, .int a2, px_u] [] ph (px_qI r ph') := by
  intro n
  induction n with
  | zero => intro _ _ _ _ _ _ h; cases h
  | succ n ih =>
    intro a0 a1 a2 ph r ph' h
    unfold f_Scribe_writeMap_6 at h
    refine px_ld rfl rfl rfl rfl rfl ?_
    refine px_ld rfl rfl rfl rfl rfl ?_
    obtain ⟨t1, h0, h⟩ := xs_some h
    obtain ⟨fs, e1, e2⟩ := xgR_some h0
    refine px_get rfl e1 e2 rfl ?_
    obtain ⟨t2, h0, h⟩ := xs_some h
    obtain ⟨fs, e1, e2⟩ := xgI_some h0
    refine px_get rfl e1 e2 rfl ?_
    refine px_icge rfl (by decide) rfl (fun hc => ?_) (fun hc => ?_)
    · replace h := (if_pos hc).symm.trans h
      refine px_forget (n := 2) (lv' := [_, _, _, _]) rfl ?_
      exact (r_Scribe_writeMap_128 h :)
    · replace h := (if_neg hc).symm.trans h
      refine px_ld rfl rfl rfl rfl rfl ?_
      obtain ⟨t3, h0, h⟩ := xs_some h
      obtain ⟨fs, e1, e2⟩ := xgR_some h0
      refine px_get rfl e1 e2 rfl ?_
      refine px_ld rfl rfl rfl rfl rfl ?_
      obtain ⟨fs, h0, h⟩ := xs_some h
      have e1 := xo_some h0
      obtain ⟨t4, ph5, h0, h⟩ := xb_some h
      refine px_cV1 rfl rfl e1 rfl rfl rfl rfl rfl rfl rfl (r_Layout_partAt h0 :) (fun _ _ q => nomatch q.2) (fun r ph' q => ?_)
      obtain ⟨rfl, q⟩ := q
      cases q
      refine px_st (lv' := [.ref a0, .ref a1, .int a2, va_rf t4]) rfl rfl (by first | rfl | (cases t4 <;> rfl)) (by first | rfl | (cases t4 <;> rfl)) rfl (by first | rfl | (cases t4 <;> rfl)) rfl ?_
      refine px_ld rfl rfl rfl rfl rfl ?_
      refine px_ld rfl rfl rfl (by first | rfl | (cases t4 <;> rfl)) rfl ?_
      obtain ⟨p6, h0, h⟩ := xs_some h
      revert h
      subst h0
      intro h
      obtain ⟨t7, h0, h⟩ := xs_some h
      obtain ⟨fs, e1, e2⟩ := xgJ_some h0
      refine px_get rfl e1 e2 rfl ?_
      obtain ⟨fs, h0, h⟩ := xs_some h
      have e1 := xo_some h0
      obtain ⟨u0, ph8, h0, h⟩ := xb_some h
      refine px_cV1 rfl rfl e1 rfl rfl rfl rfl rfl rfl rfl (r_Row_putHex h0 :) (fun _ _ q => nomatch q.2) (fun r ph' q => ?_)
      obtain ⟨rfl, q⟩ := q
      cases q
      refine px_ld rfl rfl rfl rfl rfl ?_
      refine px_ic (k := 1) rfl rfl rfl ?_
      refine px_ldc2 rfl rfl rfl ?_
      obtain ⟨fs, h0, h⟩ := xs_some h
      have e1 := xo_some h0
      obtain ⟨u0, ph9, h0, h⟩ := xb_some h
      refine px_cV2 rfl rfl e1 rfl rfl rfl rfl rfl rfl rfl (r_Row_put h0 :) (fun _ _ q => nomatch q.2) (fun r ph' q => ?_)
      obtain ⟨rfl, q⟩ := q
      cases q
      refine px_ld rfl rfl rfl rfl rfl ?_
      refine px_ld rfl rfl rfl rfl rfl ?_
      obtain ⟨t10, h0, h⟩ := xs_some h
      obtain ⟨fs, e1, e2⟩ := xgI_some h0
      refine px_get rfl e1 e2 rfl ?_
      obtain ⟨fs, h0, h⟩ := xs_some h
      have e1 := xo_some h0
      obtain ⟨u0, ph11, h0, h⟩ := xb_some h
      refine px_cV1 rfl rfl e1 rfl rfl rfl rfl rfl rfl rfl (r_Row_putDecimal h0 :) (fun _ _ q => nomatch q.2) (fun r ph' q => ?_)
      obtain ⟨rfl, q⟩ := q
      cases q
      refine px_ld rfl rfl rfl rfl rfl ?_
      refine px_ic (k := 1) rfl rfl rfl ?_
      refine px_ldc2 rfl rfl rfl ?_
      obtain ⟨fs, h0, h⟩ := xs_some h
      have e1 := xo_some h0
      obtain ⟨u0, ph12, h0, h⟩ := xb_some h
      refine px_cV2 rfl rfl e1 rfl rfl rfl rfl rfl rfl rfl (r_Row_put h0 :) (fun _ _ q => nomatch q.2) (fun r ph' q => ?_)
      obtain ⟨rfl, q⟩ := q
      cases q
      refine px_ld rfl rfl rfl rfl rfl ?_
      refine px_ld rfl rfl rfl rfl rfl ?_
      obtain ⟨t13, h0, h⟩ := xs_some h
      obtain ⟨fs, e1, e2⟩ := xgI_some h0
      refine px_get rfl e1 e2 rfl ?_
      obtain ⟨fs, h0, h⟩ := xs_some h
      have e1 := xo_some h0
      obtain ⟨u0, ph14, h0, h⟩ := xb_some h
      refine px_cV1 rfl rfl e1 rfl rfl rfl rfl rfl rfl rfl (r_Row_putDecimal h0 :) (fun _ _ q => nomatch q.2) (fun r ph' q => ?_)
      obtain ⟨rfl, q⟩ := q
      cases q
      refine px_ld rfl rfl rfl rfl rfl ?_
      refine px_ic (k := 1) rfl rfl rfl ?_
      refine px_ldc2 rfl rfl rfl ?_
      obtain ⟨fs, h0, h⟩ := xs_some h
      have e1 := xo_some h0
      obtain ⟨u0, ph15, h0, h⟩ := xb_some h
      refine px_cV2 rfl rfl e1 rfl rfl rfl rfl rfl rfl rfl (r_Row_put h0 :) (fun _ _ q => nomatch q.2) (fun r ph' q => ?_)
      obtain ⟨rfl, q⟩ := q
      cases q
      refine px_ld rfl rfl rfl rfl rfl ?_
      refine px_ld rfl rfl rfl rfl rfl ?_
      obtain ⟨t16, h0, h⟩ := xs_some h
      obtain ⟨fs, e1, e2⟩ := xgI_some h0
      refine px_get rfl e1 e2 rfl ?_
      obtain ⟨fs, h0, h⟩ := xs_some h
      have e1 := xo_some h0
      obtain ⟨u0, ph17, h0, h⟩ := xb_some h
      refine px_cV1 rfl rfl e1 rfl rfl rfl rfl rfl rfl rfl (r_Row_putDecimal h0 :) (fun _ _ q => nomatch q.2) (fun r ph' q => ?_)
      obtain ⟨rfl, q⟩ := q
      cases q
      refine px_ld rfl rfl rfl rfl rfl ?_
      refine px_ic (k := 1) rfl rfl rfl ?_
      refine px_ldc2 rfl rfl rfl ?_
      obtain ⟨fs, h0, h⟩ := xs_some h
      have e1 := xo_some h0
      obtain ⟨u0, ph18, h0, h⟩ := xb_some h
      refine px_cV2 rfl rfl e1 rfl rfl rfl rfl rfl rfl rfl (r_Row_put h0 :) (fun _ _ q => nomatch q.2) (fun r ph' q => ?_)
      obtain ⟨rfl, q⟩ := q
      cases q
      refine px_ld rfl rfl rfl rfl rfl ?_
      refine px_ld rfl rfl rfl rfl rfl ?_
      obtain ⟨t19, h0, h⟩ := xs_some h
      obtain ⟨fs, e1, e2⟩ := xgI_some h0
      refine px_get rfl e1 e2 rfl ?_
      obtain ⟨fs, h0, h⟩ := xs_some h
      have e1 := xo_some h0
      obtain ⟨u0, ph20, h0, h⟩ := xb_some h
      refine px_cV1 rfl rfl e1 rfl rfl rfl rfl rfl rfl rfl (r_Row_putDecimal h0 :) (fun _ _ q => nomatch q.2) (fun r ph' q => ?_)
      obtain ⟨rfl, q⟩ := q
      cases q
      refine px_ld rfl rfl rfl rfl rfl ?_
      refine px_ic (k := 1) rfl rfl rfl ?_
      refine px_ldc2 rfl rfl rfl ?_
      obtain ⟨fs, h0, h⟩ := xs_some h
      have e1 := xo_some h0
      obtain ⟨u0, ph21, h0, h⟩ := xb_some h
      refine px_cV2 rfl rfl e1 rfl rfl rfl rfl rfl rfl rfl (r_Row_put h0 :) (fun _ _ q => nomatch q.2) (fun r ph' q => ?_)
      obtain ⟨rfl, q⟩ := q
      cases q
      refine px_ld rfl rfl rfl rfl rfl ?_
      refine px_ld rfl rfl rfl rfl rfl ?_
      obtain ⟨t22, h0, h⟩ := xs_some h
      obtain ⟨fs, e1, e2⟩ := xgI_some h0
      refine px_get rfl e1 e2 rfl ?_
      obtain ⟨fs, h0, h⟩ := xs_some h
      have e1 := xo_some h0
      obtain ⟨u0, ph23, h0, h⟩ := xb_some h
      refine px_cV1 rfl rfl e1 rfl rfl rfl rfl rfl rfl rfl (r_Row_putDecimal h0 :) (fun _ _ q => nomatch q.2) (fun r ph' q => ?_)
      obtain ⟨rfl, q⟩ := q
      cases q
      refine px_ld rfl rfl rfl rfl rfl ?_
      refine px_ic (k := 1) rfl rfl rfl ?_
      refine px_ldc2 rfl rfl rfl ?_
      obtain ⟨fs, h0, h⟩ := xs_some h
      have e1 := xo_some h0
      obtain ⟨u0, ph24, h0, h⟩ := xb_some h
      refine px_cV2 rfl rfl e1 rfl rfl rfl rfl rfl rfl rfl (r_Row_put h0 :) (fun _ _ q => nomatch q.2) (fun r ph' q => ?_)
      obtain ⟨rfl, q⟩ := q
      cases q
      refine px_iinc (lv' := [_, _, _, _]) rfl rfl rfl rfl rfl rfl ?_
      refine px_goto rfl (by decide) rfl ?_
      refine px_forget (n := 3) (lv' := [_, _, _, _]) rfl ?_
      exact (ih h :)
def f_Scribe_writeMap (F : Nat) (c : px_CT) (a0 : Nat) (a1 : Nat) (ph : px_H) : Option (Int32 × px_H) :=
  (xo ph 10 a1).bind fun _ =>
  xb (f_Row_clear F c a1 ph) fun _ ph1 =>
  f_Scribe_writeMap_6 F c F a0 a1 (nI 0) ph1
theorem r_Scribe_writeMap {l : Launch} {g : px_G} {d F : Nat} {a0 : Nat} {a1 : Nat} {ph : px_H} {r : Int32} {ph' : px_H} (h : f_Scribe_writeMap F (px_ct g) a0 a1 ph = some (r, ph')) : PW l g (d + 2) m_Scribe_writeMap 0 [.ref a0, .ref a1, px_u, px_u] [] ph (px_qI r ph') := by
  unfold f_Scribe_writeMap at h
  refine px_ld rfl rfl rfl rfl rfl ?_
  obtain ⟨fs, h0, h⟩ := xs_some h
  have e1 := xo_some h0
  obtain ⟨u0, ph1, h0, h⟩ := xb_some h
  refine px_cV0 rfl rfl e1 rfl rfl rfl rfl rfl rfl rfl (r_Row_clear h0 :) (fun _ _ q => nomatch q.2) (fun r ph' q => ?_)
  obtain ⟨rfl, q⟩ := q
  cases q
  refine px_ic (k := 0) rfl rfl rfl ?_
  refine px_st (lv' := [_, _, _, _]) rfl rfl rfl rfl rfl rfl rfl ?_
  exact (r_Scribe_writeMap_6 _ h :)
def f_H_map (F : Nat) (c : px_CT) (a0 : Nat) (ph : px_H) : Option (Int32 × px_H) :=
  (xgR ph 0 11 a0).bind fun t1 =>
  (xgI ph 3 18 t1).bind fun t2 =>
  if t2 = 0 then
    (xgR ph 0 15 a0).bind fun t3 =>
    (xgR ph 0 2 a0).bind fun t4 =>
    (xo ph 11 t3).bind fun _ =>
    xb (f_Scribe_writeMap F c t3 t4 ph) fun t5 ph6 =>
    if t5 = 0 then
      some (Int32.ofInt (-1), ph6)
    else
      (xo ph6 0 a0).bind fun _ =>
      xb (f_H_publishDraft F c a0 ph6) fun t7 ph8 =>
      some (t7, ph8)
  else
    none
theorem r_H_map {l : Launch} {g : px_G} {d F : Nat} {a0 : Nat} {ph : px_H} {r : Int32} {ph' : px_H} (h : f_H_map F (px_ct g) a0 ph = some (r, ph')) : PW l g (d + 3) m_H_map 0 [.ref a0] [] ph (px_qI r ph') := by
  unfold f_H_map at h
  refine px_ld rfl rfl rfl rfl rfl ?_
  obtain ⟨t1, h0, h⟩ := xs_some h
  obtain ⟨fs, e1, e2⟩ := xgR_some h0
  refine px_get rfl e1 e2 rfl ?_
  obtain ⟨t2, h0, h⟩ := xs_some h
  obtain ⟨fs, e1, e2⟩ := xgI_some h0
  refine px_get rfl e1 e2 rfl ?_
  refine px_ifeq rfl rfl rfl (fun hc => ?_) (fun hc => ?_)
  · replace h := (if_pos hc).symm.trans h
    refine px_ld rfl rfl rfl rfl rfl ?_
    obtain ⟨t3, h0, h⟩ := xs_some h
    obtain ⟨fs, e1, e2⟩ := xgR_some h0
    refine px_get rfl e1 e2 rfl ?_
    refine px_ld rfl rfl rfl rfl rfl ?_
    obtain ⟨t4, h0, h⟩ := xs_some h
    obtain ⟨fs, e1, e2⟩ := xgR_some h0
    refine px_get rfl e1 e2 rfl ?_
    obtain ⟨fs, h0, h⟩ := xs_some h
    have e1 := xo_some h0
    obtain ⟨t5, ph6, h0, h⟩ := xb_some h
    refine px_cV1 rfl rfl e1 rfl rfl rfl rfl rfl rfl rfl (r_Scribe_writeMap h0 :) (fun _ _ q => nomatch q.2) (fun r ph' q => ?_)
    obtain ⟨rfl, q⟩ := q
    cases q
    refine px_ifne rfl rfl rfl (fun hc => ?_) (fun hc => ?_)
    · replace h := (if_neg hc).symm.trans h
      refine px_ld rfl rfl rfl rfl rfl ?_
      obtain ⟨fs, h0, h⟩ := xs_some h
      have e1 := xo_some h0
      obtain ⟨t7, ph8, h0, h⟩ := xb_some h
      refine px_cV0 rfl rfl e1 rfl rfl rfl rfl rfl rfl rfl (r_H_publishDraft h0 :) (fun _ _ q => nomatch q.2) (fun r ph' q => ?_)
      obtain ⟨rfl, q⟩ := q
      cases q
      cases h
      exact px_iret rfl (Or.inl rfl) rfl ⟨rfl, rfl⟩
    · replace h := (if_pos hc).symm.trans h
      refine px_alu rfl rfl rfl ?_
      cases h
      exact px_iret rfl (Or.inl rfl) rfl ⟨rfl, rfl⟩
  · replace h := (if_neg hc).symm.trans h
    cases h
def f_H_address_60 (F : Nat) (c : px_CT) (s0 : Int64) (ph : px_H) : Option (Int64 × px_H) :=
  some (s0, ph)
theorem r_H_address_60 {l : Launch} {g : px_G} {d F : Nat} {s0 : Int64} {ph : px_H} {r : Int64} {ph' : px_H} (h : f_H_address_60 F (px_ct g) s0 ph = some (r, ph')) : PW l g (d + 2) m_H_address 60 [px_u, px_u] [.long s0] ph (px_qJ r ph') := by
  unfold f_H_address_60 at h
  cases h
  exact px_lret rfl rfl rfl ⟨rfl, rfl⟩
def f_H_address_45 (F : Nat) (c : px_CT) (s0 : Option Nat) (ph : px_H) : Option (Int64 × px_H) :=
  (match s0 with
    | none => f_H_address_60 F c ((-1 : Int64)) ph
    | some p1 => (xgJ ph 5 14 p1).bind fun t2 =>
    f_H_address_60 F c t2 ph)
theorem r_H_address_45 {l : Launch} {g : px_G} {d F : Nat} {s0 : Option Nat} {ph : px_H} {r : Int64} {ph' : px_H} (h : f_H_address_45 F (px_ct g) s0 ph = some (r, ph')) : PW l g (d + 2) m_H_address 45 [px_u, px_u] [va_rf s0] ph (px_qJ r ph') := by
  unfold f_H_address_45 at h
  refine px_st (lv' := [px_u, va_rf s0]) rfl rfl (by first | rfl | (cases s0 <;> rfl)) (by first | rfl | (cases s0 <;> rfl)) rfl (by first | rfl | (cases s0 <;> rfl)) rfl ?_
  refine px_ld rfl rfl rfl (by first | rfl | (cases s0 <;> rfl)) rfl ?_
  cases s0 with
  | none =>
    refine px_ifnnN rfl rfl ?_
    refine px_ldc2 rfl rfl rfl ?_
    refine px_goto rfl rfl rfl ?_
    refine px_forget (n := 1) (lv' := [_, _]) rfl ?_
    exact (r_H_address_60 h :)
  | some p1 =>
    refine px_ifnnR rfl rfl rfl ?_
    refine px_ld rfl rfl rfl rfl rfl ?_
    obtain ⟨t2, h0, h⟩ := xs_some h
    obtain ⟨fs, e1, e2⟩ := xgJ_some h0
    refine px_get rfl e1 e2 rfl ?_
    refine px_forget (n := 1) (lv' := [_, _]) rfl ?_
    exact (r_H_address_60 h :)
def f_H_address (F : Nat) (c : px_CT) (a0 : Nat) (ph : px_H) : Option (Int64 × px_H) :=
  (xgR ph 0 11 a0).bind fun t1 =>
  (xgI ph 3 18 t1).bind fun t2 =>
  if t2 = 0 then
    (xo ph 0 a0).bind fun _ =>
    xb (f_H_readTapeName F c a0 ph) fun t3 ph4 =>
    if t3 = 0 then
      f_H_address_45 F c none ph4
    else
      (xgR ph4 0 11 a0).bind fun t5 =>
      (xgR ph4 3 3 t5).bind fun t6 =>
      (xgR ph4 0 10 a0).bind fun t7 =>
      (xo ph4 6 t6).bind fun _ =>
      xb (f_Names_find F c t6 (some t7) ph4) fun t8 ph9 =>
      f_H_address_45 F c t8 ph9
  else
    none
theorem r_H_address {l : Launch} {g : px_G} {d F : Nat} {a0 : Nat} {ph : px_H} {r : Int64} {ph' : px_H} (h : f_H_address F (px_ct g) a0 ph = some (r, ph')) : PW l g (d + 2) m_H_address 0 [.ref a0, px_u] [] ph (px_qJ r ph') := by
  unfold f_H_address at h
  refine px_ld rfl rfl rfl rfl rfl ?_
  obtain ⟨t1, h0, h⟩ := xs_some h
  obtain ⟨fs, e1, e2⟩ := xgR_some h0
  refine px_get rfl e1 e2 rfl ?_
  obtain ⟨t2, h0, h⟩ := xs_some h
  obtain ⟨fs, e1, e2⟩ := xgI_some h0
  refine px_get rfl e1 e2 rfl ?_
  refine px_ifeq rfl rfl rfl (fun hc => ?_) (fun hc => ?_)
  · replace h := (if_pos hc).symm.trans h
    refine px_ld rfl rfl rfl rfl rfl ?_
    obtain ⟨fs, h0, h⟩ := xs_some h
    have e1 := xo_some h0
    obtain ⟨t3, ph4, h0, h⟩ := xb_some h
    refine px_cV0 rfl rfl e1 rfl rfl rfl rfl rfl rfl rfl (r_H_readTapeName h0 :) (fun _ _ q => nomatch q.2) (fun r ph' q => ?_)
    obtain ⟨rfl, q⟩ := q
    cases q
    refine px_ifeq rfl rfl rfl (fun hc => ?_) (fun hc => ?_)
    · replace h := (if_pos hc).symm.trans h
      refine px_alu rfl rfl rfl ?_
      refine px_forget (n := 0) (lv' := [_, _]) rfl ?_
      exact (r_H_address_45 h :)
    · replace h := (if_neg hc).symm.trans h
      refine px_ld rfl rfl rfl rfl rfl ?_
      obtain ⟨t5, h0, h⟩ := xs_some h
      obtain ⟨fs, e1, e2⟩ := xgR_some h0
      refine px_get rfl e1 e2 rfl ?_
      obtain ⟨t6, h0, h⟩ := xs_some h
      obtain ⟨fs, e1, e2⟩ := xgR_some h0
      refine px_get rfl e1 e2 rfl ?_
      refine px_ld rfl rfl rfl rfl rfl ?_
      obtain ⟨t7, h0, h⟩ := xs_some h
      obtain ⟨fs, e1, e2⟩ := xgR_some h0
      refine px_get rfl e1 e2 rfl ?_
      obtain ⟨fs, h0, h⟩ := xs_some h
      have e1 := xo_some h0
      obtain ⟨t8, ph9, h0, h⟩ := xb_some h
      refine px_cV1 rfl rfl e1 rfl rfl rfl rfl rfl rfl rfl (r_Names_find h0 :) (fun _ _ q => nomatch q.2) (fun r ph' q => ?_)
      obtain ⟨rfl, q⟩ := q
      cases q
      refine px_goto rfl rfl rfl ?_
      refine px_forget (n := 0) (lv' := [_, _]) rfl ?_
      exact (r_H_address_45 h :)
  · replace h := (if_neg hc).symm.trans h
    cases h
def f_H_taken (F : Nat) (c : px_CT) (a0 : Nat) (a1 : Int32) (a2 : Int32) (ph : px_H) : Option (Int32 × px_H) :=
  (xo ph 0 a0).bind fun _ =>
  xb (f_H_memberAt F c a0 a1 a2 ph) fun t1 ph2 =>
  (match t1 with
    | none => none
    | some p3 => (xgI ph2 7 15 p3).bind fun t4 =>
    xz t4 ph2)
theorem r_H_taken {l : Launch} {g : px_G} {d F : Nat} {a0 : Nat} {a1 : Int32} {a2 : Int32} {ph : px_H} {r : Int32} {ph' : px_H} (h : f_H_taken F (px_ct g) a0 a1 a2 ph = some (r, ph')) : PW l g (d + 1) m_H_taken 0 [.ref a0, .int a1, .int a2, px_u] [] ph (px_qI r ph') := by
  unfold f_H_taken at h
  refine px_ld rfl rfl rfl rfl rfl ?_
  refine px_ld rfl rfl rfl rfl rfl ?_
  refine px_ld rfl rfl rfl rfl rfl ?_
  obtain ⟨fs, h0, h⟩ := xs_some h
  have e1 := xo_some h0
  obtain ⟨t1, ph2, h0, h⟩ := xb_some h
  refine px_cV2 rfl rfl e1 rfl rfl rfl rfl rfl rfl rfl (r_H_memberAt h0 :) (fun _ _ q => nomatch q.2) (fun r ph' q => ?_)
  obtain ⟨rfl, q⟩ := q
  cases q
  refine px_st (lv' := [.ref a0, .int a1, .int a2, va_rf t1]) rfl rfl (by first | rfl | (cases t1 <;> rfl)) (by first | rfl | (cases t1 <;> rfl)) rfl (by first | rfl | (cases t1 <;> rfl)) rfl ?_
  refine px_ld rfl rfl rfl (by first | rfl | (cases t1 <;> rfl)) rfl ?_
  cases t1 with
  | none =>
    refine px_ifnnN rfl rfl ?_
    cases h
  | some p3 =>
    refine px_ifnnR rfl rfl rfl ?_
    refine px_ld rfl rfl rfl rfl rfl ?_
    obtain ⟨t4, h0, h⟩ := xs_some h
    obtain ⟨fs, e1, e2⟩ := xgI_some h0
    refine px_get rfl e1 e2 rfl ?_
    obtain ⟨y0, y1, y2⟩ := xz_some h
    subst y1 y2
    exact px_iret rfl (Or.inr ⟨rfl, y0⟩) rfl ⟨rfl, rfl⟩
def f_H_cause (F : Nat) (c : px_CT) (a0 : Nat) (a1 : Int32) (a2 : Int32) (ph : px_H) : Option (Int32 × px_H) :=
  (xo ph 0 a0).bind fun _ =>
  xb (f_H_memberAt F c a0 a1 a2 ph) fun t1 ph2 =>
  (match t1 with
    | none => none
    | some p3 => (xgI ph2 7 16 p3).bind fun t4 =>
    if t4 = 0 then
      some (nI 0, ph2)
    else
      (xgR ph2 0 10 a0).bind fun t5 =>
      (xgR ph2 0 3 a0).bind fun t6 =>
      (xgI ph2 7 16 p3).bind fun t7 =>
      (xo ph2 7 p3).bind fun _ =>
      xb (f_ObjectFile_nameStart F c p3 t7 ph2) fun t8 ph9 =>
      (xo ph9 5 t5).bind fun _ =>
      xb (f_Name_read F c t5 t6 t8 ph9) fun _ ph10 =>
      (xgR ph10 0 1 a0).bind fun t11 =>
      (xo ph10 10 t11).bind fun _ =>
      xb (f_Row_clear F c t11 ph10) fun _ ph12 =>
      (xgR ph12 0 10 a0).bind fun t13 =>
      (xgR ph12 0 1 a0).bind fun t14 =>
      (xo ph12 5 t13).bind fun _ =>
      xb (f_Name_writeTo F c t13 t14 ph12) fun _ ph15 =>
      (xgR ph15 0 1 a0).bind fun t16 =>
      (xgI ph15 10 1 t16).bind fun t17 =>
      some (t17, ph15))
theorem r_H_cause {l : Launch} {g : px_G} {d F : Nat} {a0 : Nat} {a1 : Int32} {a2 : Int32} {ph : px_H} {r : Int32} {ph' : px_H} (h : f_H_cause F (px_ct g) a0 a1 a2 ph = some (r, ph')) : PW l g (d + 2) m_H_cause 0 [.ref a0, .int a1, .int a2, px_u] [] ph (px_qI r ph') := by
  unfold f_H_cause at h
  refine px_ld rfl rfl rfl rfl rfl ?_
  refine px_ld rfl rfl rfl rfl rfl ?_
  refine px_ld rfl rfl rfl rfl rfl ?_
  obtain ⟨fs, h0, h⟩ := xs_some h
  have e1 := xo_some h0
  obtain ⟨t1, ph2, h0, h⟩ := xb_some h
  refine px_cV2 rfl rfl e1 rfl rfl rfl rfl rfl rfl rfl (r_H_memberAt h0 :) (fun _ _ q => nomatch q.2) (fun r ph' q => ?_)
  obtain ⟨rfl, q⟩ := q
  cases q
  refine px_st (lv' := [.ref a0, .int a1, .int a2, va_rf t1]) rfl rfl (by first | rfl | (cases t1 <;> rfl)) (by first | rfl | (cases t1 <;> rfl)) rfl (by first | rfl | (cases t1 <;> rfl)) rfl ?_
  refine px_ld rfl rfl rfl (by first | rfl | (cases t1 <;> rfl)) rfl ?_
  cases t1 with
  | none =>
    refine px_ifnnN rfl rfl ?_
    cases h
  | some p3 =>
    refine px_ifnnR rfl rfl rfl ?_
    refine px_ld rfl rfl rfl rfl rfl ?_
    obtain ⟨t4, h0, h⟩ := xs_some h
    obtain ⟨fs, e1, e2⟩ := xgI_some h0
    refine px_get rfl e1 e2 rfl ?_
    refine px_ifne rfl rfl rfl (fun hc => ?_) (fun hc => ?_)
    · replace h := (if_neg hc).symm.trans h
      refine px_ld rfl rfl rfl rfl rfl ?_
      obtain ⟨t5, h0, h⟩ := xs_some h
      obtain ⟨fs, e1, e2⟩ := xgR_some h0
      refine px_get rfl e1 e2 rfl ?_
      refine px_ld rfl rfl rfl rfl rfl ?_
      obtain ⟨t6, h0, h⟩ := xs_some h
      obtain ⟨fs, e1, e2⟩ := xgR_some h0
      refine px_get rfl e1 e2 rfl ?_
      refine px_ld rfl rfl rfl rfl rfl ?_
      refine px_ld rfl rfl rfl rfl rfl ?_
      obtain ⟨t7, h0, h⟩ := xs_some h
      obtain ⟨fs, e1, e2⟩ := xgI_some h0
      refine px_get rfl e1 e2 rfl ?_
      obtain ⟨fs, h0, h⟩ := xs_some h
      have e1 := xo_some h0
      obtain ⟨t8, ph9, h0, h⟩ := xb_some h
      refine px_cV1 rfl rfl e1 rfl rfl rfl rfl rfl rfl rfl (r_ObjectFile_nameStart h0 :) (fun _ _ q => nomatch q.2) (fun r ph' q => ?_)
      obtain ⟨rfl, q⟩ := q
      cases q
      obtain ⟨fs, h0, h⟩ := xs_some h
      have e1 := xo_some h0
      obtain ⟨u0, ph10, h0, h⟩ := xb_some h
      refine px_cV2 rfl rfl e1 rfl rfl rfl rfl rfl rfl rfl (r_Name_read h0 :) (fun _ _ q => nomatch q.2) (fun r ph' q => ?_)
      obtain ⟨rfl, q⟩ := q
      cases q
      refine px_ld rfl rfl rfl rfl rfl ?_
      obtain ⟨t11, h0, h⟩ := xs_some h
      obtain ⟨fs, e1, e2⟩ := xgR_some h0
      refine px_get rfl e1 e2 rfl ?_
      obtain ⟨fs, h0, h⟩ := xs_some h
      have e1 := xo_some h0
      obtain ⟨u0, ph12, h0, h⟩ := xb_some h
      refine px_cV0 rfl rfl e1 rfl rfl rfl rfl rfl rfl rfl (r_Row_clear h0 :) (fun _ _ q => nomatch q.2) (fun r ph' q => ?_)
      obtain ⟨rfl, q⟩ := q
      cases q
      refine px_ld rfl rfl rfl rfl rfl ?_
      obtain ⟨t13, h0, h⟩ := xs_some h
      obtain ⟨fs, e1, e2⟩ := xgR_some h0
      refine px_get rfl e1 e2 rfl ?_
      refine px_ld rfl rfl rfl rfl rfl ?_
      obtain ⟨t14, h0, h⟩ := xs_some h
      obtain ⟨fs, e1, e2⟩ := xgR_some h0
      refine px_get rfl e1 e2 rfl ?_
      obtain ⟨fs, h0, h⟩ := xs_some h
      have e1 := xo_some h0
      obtain ⟨u0, ph15, h0, h⟩ := xb_some h
      refine px_cV1 rfl rfl e1 rfl rfl rfl rfl rfl rfl rfl (r_Name_writeTo h0 :) (fun _ _ q => nomatch q.2) (fun r ph' q => ?_)
      obtain ⟨rfl, q⟩ := q
      cases q
      refine px_ld rfl rfl rfl rfl rfl ?_
      obtain ⟨t16, h0, h⟩ := xs_some h
      obtain ⟨fs, e1, e2⟩ := xgR_some h0
      refine px_get rfl e1 e2 rfl ?_
      obtain ⟨t17, h0, h⟩ := xs_some h
      obtain ⟨fs, e1, e2⟩ := xgI_some h0
      refine px_get rfl e1 e2 rfl ?_
      cases h
      exact px_iret rfl (Or.inl rfl) rfl ⟨rfl, rfl⟩
    · replace h := (if_pos hc).symm.trans h
      refine px_ic (k := 0) rfl rfl rfl ?_
      cases h
      exact px_iret rfl (Or.inl rfl) rfl ⟨rfl, rfl⟩
def f_H_section_44 (F : Nat) (c : px_CT) (ph : px_H) : Option (Int32 × px_H) :=
  none
theorem r_H_section_44 {l : Launch} {g : px_G} {d F : Nat} {ph : px_H} {r : Int32} {ph' : px_H} (h : f_H_section_44 F (px_ct g) ph = some (r, ph')) : PW l g (d + 1) m_H_section 44 [px_u, px_u, px_u, px_u] [] ph (px_qI r ph') := by
  unfold f_H_section_44 at h
  cases h
def f_H_section (F : Nat) (c : px_CT) (a0 : Nat) (a1 : Int32) (a2 : Int32) (ph : px_H) : Option (Int32 × px_H) :=
  (xgR ph 0 11 a0).bind fun t1 =>
  (xgI ph 3 18 t1).bind fun t2 =>
  if t2 = 0 then
    if a1 < 0 then
      f_H_section_44 F c ph
    else
      (xgR ph 0 13 a0).bind fun t3 =>
      (xgI ph 2 11 t3).bind fun t4 =>
      if t4 ≤ a1 then
        f_H_section_44 F c ph
      else
        if a2 < 0 then
          f_H_section_44 F c ph
        else
          if a2 ≤ (nI 4) then
            (xgR ph 0 13 a0).bind fun t5 =>
            (xo ph 2 t5).bind fun _ =>
            xb (f_Layout_partAt F c t5 a1 ph) fun t6 ph7 =>
            if a2 = nI 0 then
              (t6).bind fun p8 =>
              (xgI ph7 8 1 p8).bind fun t9 =>
              some (t9, ph7)
            else if a2 = nI 1 then
              (t6).bind fun p10 =>
              (xgI ph7 8 2 p10).bind fun t11 =>
              some (t11, ph7)
            else if a2 = nI 2 then
              (t6).bind fun p12 =>
              (xgI ph7 8 3 p12).bind fun t13 =>
              some (t13, ph7)
            else if a2 = nI 3 then
              (t6).bind fun p14 =>
              (xgI ph7 8 4 p14).bind fun t15 =>
              some (t15, ph7)
            else 
              (t6).bind fun p16 =>
              (xgI ph7 8 5 p16).bind fun t17 =>
              some (t17, ph7)
          else
            f_H_section_44 F c ph
  else
    none
theorem r_H_section {l : Launch} {g : px_G} {d F : Nat} {a0 : Nat} {a1 : Int32} {a2 : Int32} {ph : px_H} {r : Int32} {ph' : px_H} (h : f_H_section F (px_ct g) a0 a1 a2 ph = some (r, ph')) : PW l g (d + 1) m_H_section 0 [.ref a0, .int a1, .int a2, px_u] [] ph (px_qI r ph') := by
  unfold f_H_section at h
  refine px_ld rfl rfl rfl rfl rfl ?_
  obtain ⟨t1, h0, h⟩ := xs_some h
  obtain ⟨fs, e1, e2⟩ := xgR_some h0
  refine px_get rfl e1 e2 rfl ?_
  obtain ⟨t2, h0, h⟩ := xs_some h
  obtain ⟨fs, e1, e2⟩ := xgI_some h0
  refine px_get rfl e1 e2 rfl ?_
  refine px_ifeq rfl rfl rfl (fun hc => ?_) (fun hc => ?_)
  · replace h := (if_pos hc).symm.trans h
    refine px_ld rfl rfl rfl rfl rfl ?_
    refine px_iflt rfl rfl rfl (fun hc => ?_) (fun hc => ?_)
    · replace h := (if_pos hc).symm.trans h
      refine px_forget (n := 0) (lv' := [_, _, _, _]) rfl ?_
      refine px_forget (n := 1) (lv' := [_, _, _, _]) rfl ?_
      refine px_forget (n := 2) (lv' := [_, _, _, _]) rfl ?_
      exact (r_H_section_44 h :)
    · replace h := (if_neg hc).symm.trans h
      refine px_ld rfl rfl rfl rfl rfl ?_
      refine px_ld rfl rfl rfl rfl rfl ?_
      obtain ⟨t3, h0, h⟩ := xs_some h
      obtain ⟨fs, e1, e2⟩ := xgR_some h0
      refine px_get rfl e1 e2 rfl ?_
      obtain ⟨t4, h0, h⟩ := xs_some h
      obtain ⟨fs, e1, e2⟩ := xgI_some h0
      refine px_get rfl e1 e2 rfl ?_
      refine px_icge rfl rfl rfl (fun hc => ?_) (fun hc => ?_)
      · replace h := (if_pos hc).symm.trans h
        refine px_forget (n := 0) (lv' := [_, _, _, _]) rfl ?_
        refine px_forget (n := 1) (lv' := [_, _, _, _]) rfl ?_
        refine px_forget (n := 2) (lv' := [_, _, _, _]) rfl ?_
        exact (r_H_section_44 h :)
      · replace h := (if_neg hc).symm.trans h
        refine px_ld rfl rfl rfl rfl rfl ?_
        refine px_iflt rfl rfl rfl (fun hc => ?_) (fun hc => ?_)
        · replace h := (if_pos hc).symm.trans h
          refine px_forget (n := 0) (lv' := [_, _, _, _]) rfl ?_
          refine px_forget (n := 1) (lv' := [_, _, _, _]) rfl ?_
          refine px_forget (n := 2) (lv' := [_, _, _, _]) rfl ?_
          exact (r_H_section_44 h :)
        · replace h := (if_neg hc).symm.trans h
          refine px_ld rfl rfl rfl rfl rfl ?_
          refine px_ic (k := 4) rfl rfl rfl ?_
          refine px_icle rfl rfl rfl (fun hc => ?_) (fun hc => ?_)
          · replace h := (if_pos hc).symm.trans h
            refine px_ld rfl rfl rfl rfl rfl ?_
            obtain ⟨t5, h0, h⟩ := xs_some h
            obtain ⟨fs, e1, e2⟩ := xgR_some h0
            refine px_get rfl e1 e2 rfl ?_
            refine px_ld rfl rfl rfl rfl rfl ?_
            obtain ⟨fs, h0, h⟩ := xs_some h
            have e1 := xo_some h0
            obtain ⟨t6, ph7, h0, h⟩ := xb_some h
            refine px_cV1 rfl rfl e1 rfl rfl rfl rfl rfl rfl rfl (r_Layout_partAt h0 :) (fun _ _ q => nomatch q.2) (fun r ph' q => ?_)
            obtain ⟨rfl, q⟩ := q
            cases q
            refine px_st (lv' := [.ref a0, .int a1, .int a2, va_rf t6]) rfl rfl (by first | rfl | (cases t6 <;> rfl)) (by first | rfl | (cases t6 <;> rfl)) rfl (by first | rfl | (cases t6 <;> rfl)) rfl ?_
            refine px_ld rfl rfl rfl rfl rfl ?_
            by_cases hs0 : a2 = nI 0
            · replace h := (if_pos hs0).symm.trans h
              refine px_tsK (len := 31) (off := 31) (tgt := 96) 0 rfl hs0 (by decide) (by decide) (by decide) rfl (by decide) ?_
              refine px_ld rfl rfl rfl (by first | rfl | (cases t6 <;> rfl)) rfl ?_
              obtain ⟨p8, h0, h⟩ := xs_some h
              revert h
              subst h0
              intro h
              obtain ⟨t9, h0, h⟩ := xs_some h
              obtain ⟨fs, e1, e2⟩ := xgI_some h0
              refine px_get rfl e1 e2 rfl ?_
              cases h
              exact px_iret rfl (Or.inl rfl) rfl ⟨rfl, rfl⟩
            replace h := (if_neg hs0).symm.trans h
            by_cases hs1 : a2 = nI 1
            · replace h := (if_pos hs1).symm.trans h
              refine px_tsK (len := 31) (off := 36) (tgt := 101) 1 rfl hs1 (by decide) (by decide) (by decide) rfl (by decide) ?_
              refine px_ld rfl rfl rfl (by first | rfl | (cases t6 <;> rfl)) rfl ?_
              obtain ⟨p10, h0, h⟩ := xs_some h
              revert h
              subst h0
              intro h
              obtain ⟨t11, h0, h⟩ := xs_some h
              obtain ⟨fs, e1, e2⟩ := xgI_some h0
              refine px_get rfl e1 e2 rfl ?_
              cases h
              exact px_iret rfl (Or.inl rfl) rfl ⟨rfl, rfl⟩
            replace h := (if_neg hs1).symm.trans h
            by_cases hs2 : a2 = nI 2
            · replace h := (if_pos hs2).symm.trans h
              refine px_tsK (len := 31) (off := 41) (tgt := 106) 2 rfl hs2 (by decide) (by decide) (by decide) rfl (by decide) ?_
              refine px_ld rfl rfl rfl (by first | rfl | (cases t6 <;> rfl)) rfl ?_
              obtain ⟨p12, h0, h⟩ := xs_some h
              revert h
              subst h0
              intro h
              obtain ⟨t13, h0, h⟩ := xs_some h
              obtain ⟨fs, e1, e2⟩ := xgI_some h0
              refine px_get rfl e1 e2 rfl ?_
              cases h
              exact px_iret rfl (Or.inl rfl) rfl ⟨rfl, rfl⟩
            replace h := (if_neg hs2).symm.trans h
            by_cases hs3 : a2 = nI 3
            · replace h := (if_pos hs3).symm.trans h
              refine px_tsK (len := 31) (off := 46) (tgt := 111) 3 rfl hs3 (by decide) (by decide) (by decide) rfl (by decide) ?_
              refine px_ld rfl rfl rfl (by first | rfl | (cases t6 <;> rfl)) rfl ?_
              obtain ⟨p14, h0, h⟩ := xs_some h
              revert h
              subst h0
              intro h
              obtain ⟨t15, h0, h⟩ := xs_some h
              obtain ⟨fs, e1, e2⟩ := xgI_some h0
              refine px_get rfl e1 e2 rfl ?_
              cases h
              exact px_iret rfl (Or.inl rfl) rfl ⟨rfl, rfl⟩
            replace h := (if_neg hs3).symm.trans h
            refine px_tsD (len := 31) (lo := 0) (n := 4) (tgt := 116) rfl (lt_s (lt_s (lt_s (lt_s lt_0 hs0) hs1) hs2) hs3) (by decide) (by decide) ?_
            refine px_ld rfl rfl rfl (by first | rfl | (cases t6 <;> rfl)) rfl ?_
            obtain ⟨p16, h0, h⟩ := xs_some h
            revert h
            subst h0
            intro h
            obtain ⟨t17, h0, h⟩ := xs_some h
            obtain ⟨fs, e1, e2⟩ := xgI_some h0
            refine px_get rfl e1 e2 rfl ?_
            cases h
            exact px_iret rfl (Or.inl rfl) rfl ⟨rfl, rfl⟩
          · replace h := (if_neg hc).symm.trans h
            refine px_forget (n := 0) (lv' := [_, _, _, _]) rfl ?_
            refine px_forget (n := 1) (lv' := [_, _, _, _]) rfl ?_
            refine px_forget (n := 2) (lv' := [_, _, _, _]) rfl ?_
            exact (r_H_section_44 h :)
  · replace h := (if_neg hc).symm.trans h
    cases h
def f_H_place_35 (F : Nat) (c : px_CT) (ph : px_H) : Option (Int64 × px_H) :=
  none
theorem r_H_place_35 {l : Launch} {g : px_G} {d F : Nat} {ph : px_H} {r : Int64} {ph' : px_H} (h : f_H_place_35 F (px_ct g) ph = some (r, ph')) : PW l g (d + 1) m_H_place 35 [px_u, px_u] [] ph (px_qJ r ph') := by
  unfold f_H_place_35 at h
  cases h
def f_H_place (F : Nat) (c : px_CT) (a0 : Nat) (a1 : Int32) (ph : px_H) : Option (Int64 × px_H) :=
  (xgR ph 0 11 a0).bind fun t1 =>
  (xgI ph 3 18 t1).bind fun t2 =>
  if t2 = 0 then
    if a1 < 0 then
      f_H_place_35 F c ph
    else
      (xgR ph 0 13 a0).bind fun t3 =>
      (xgI ph 2 11 t3).bind fun t4 =>
      if a1 < t4 then
        (xgR ph 0 13 a0).bind fun t5 =>
        (xo ph 2 t5).bind fun _ =>
        xb (f_Layout_partAt F c t5 a1 ph) fun t6 ph7 =>
        (t6).bind fun p8 =>
        (xgJ ph7 8 11 p8).bind fun t9 =>
        some (t9, ph7)
      else
        f_H_place_35 F c ph
  else
    none
theorem r_H_place {l : Launch} {g : px_G} {d F : Nat} {a0 : Nat} {a1 : Int32} {ph : px_H} {r : Int64} {ph' : px_H} (h : f_H_place F (px_ct g) a0 a1 ph = some (r, ph')) : PW l g (d + 1) m_H_place 0 [.ref a0, .int a1] [] ph (px_qJ r ph') := by
  unfold f_H_place at h
  refine px_ld rfl rfl rfl rfl rfl ?_
  obtain ⟨t1, h0, h⟩ := xs_some h
  obtain ⟨fs, e1, e2⟩ := xgR_some h0
  refine px_get rfl e1 e2 rfl ?_
  obtain ⟨t2, h0, h⟩ := xs_some h
  obtain ⟨fs, e1, e2⟩ := xgI_some h0
  refine px_get rfl e1 e2 rfl ?_
  refine px_ifeq rfl rfl rfl (fun hc => ?_) (fun hc => ?_)
  · replace h := (if_pos hc).symm.trans h
    refine px_ld rfl rfl rfl rfl rfl ?_
    refine px_iflt rfl rfl rfl (fun hc => ?_) (fun hc => ?_)
    · replace h := (if_pos hc).symm.trans h
      refine px_forget (n := 0) (lv' := [_, _]) rfl ?_
      refine px_forget (n := 1) (lv' := [_, _]) rfl ?_
      exact (r_H_place_35 h :)
    · replace h := (if_neg hc).symm.trans h
      refine px_ld rfl rfl rfl rfl rfl ?_
      refine px_ld rfl rfl rfl rfl rfl ?_
      obtain ⟨t3, h0, h⟩ := xs_some h
      obtain ⟨fs, e1, e2⟩ := xgR_some h0
      refine px_get rfl e1 e2 rfl ?_
      obtain ⟨t4, h0, h⟩ := xs_some h
      obtain ⟨fs, e1, e2⟩ := xgI_some h0
      refine px_get rfl e1 e2 rfl ?_
      refine px_iclt rfl rfl rfl (fun hc => ?_) (fun hc => ?_)
      · replace h := (if_pos hc).symm.trans h
        refine px_ld rfl rfl rfl rfl rfl ?_
        obtain ⟨t5, h0, h⟩ := xs_some h
        obtain ⟨fs, e1, e2⟩ := xgR_some h0
        refine px_get rfl e1 e2 rfl ?_
        refine px_ld rfl rfl rfl rfl rfl ?_
        obtain ⟨fs, h0, h⟩ := xs_some h
        have e1 := xo_some h0
        obtain ⟨t6, ph7, h0, h⟩ := xb_some h
        refine px_cV1 rfl rfl e1 rfl rfl rfl rfl rfl rfl rfl (r_Layout_partAt h0 :) (fun _ _ q => nomatch q.2) (fun r ph' q => ?_)
        obtain ⟨rfl, q⟩ := q
        cases q
        obtain ⟨p8, h0, h⟩ := xs_some h
        revert h
        subst h0
        intro h
        obtain ⟨t9, h0, h⟩ := xs_some h
        obtain ⟨fs, e1, e2⟩ := xgJ_some h0
        refine px_get rfl e1 e2 rfl ?_
        cases h
        exact px_lret rfl rfl rfl ⟨rfl, rfl⟩
      · replace h := (if_neg hc).symm.trans h
        refine px_forget (n := 0) (lv' := [_, _]) rfl ?_
        refine px_forget (n := 1) (lv' := [_, _]) rfl ?_
        exact (r_H_place_35 h :)
  · replace h := (if_neg hc).symm.trans h
    cases h
def f_H_out_15 (F : Nat) (c : px_CT) (ph : px_H) : Option (Int64 × px_H) :=
  none
theorem r_H_out_15 {l : Launch} {g : px_G} {d F : Nat} {ph : px_H} {r : Int64} {ph' : px_H} (h : f_H_out_15 F (px_ct g) ph = some (r, ph')) : PW l g (d + 2) m_H_out 15 [px_u, px_u] [] ph (px_qJ r ph') := by
  unfold f_H_out_15 at h
  cases h
def f_H_out (F : Nat) (c : px_CT) (a0 : Nat) (a1 : Int32) (ph : px_H) : Option (Int64 × px_H) :=
  if a1 < 0 then
    f_H_out_15 F c ph
  else
    (xgR ph 0 1 a0).bind fun t1 =>
    (xgI ph 10 1 t1).bind fun t2 =>
    if a1 < t2 then
      (xgR ph 0 1 a0).bind fun t3 =>
      (xo ph 10 t3).bind fun _ =>
      xb (f_Row_num F c t3 a1 (nI 8) ph) fun t4 ph5 =>
      some (t4, ph5)
    else
      f_H_out_15 F c ph
theorem r_H_out {l : Launch} {g : px_G} {d F : Nat} {a0 : Nat} {a1 : Int32} {ph : px_H} {r : Int64} {ph' : px_H} (h : f_H_out F (px_ct g) a0 a1 ph = some (r, ph')) : PW l g (d + 2) m_H_out 0 [.ref a0, .int a1] [] ph (px_qJ r ph') := by
  unfold f_H_out at h
  refine px_ld rfl rfl rfl rfl rfl ?_
  refine px_iflt rfl rfl rfl (fun hc => ?_) (fun hc => ?_)
  · replace h := (if_pos hc).symm.trans h
    refine px_forget (n := 0) (lv' := [_, _]) rfl ?_
    refine px_forget (n := 1) (lv' := [_, _]) rfl ?_
    exact (r_H_out_15 h :)
  · replace h := (if_neg hc).symm.trans h
    refine px_ld rfl rfl rfl rfl rfl ?_
    refine px_ld rfl rfl rfl rfl rfl ?_
    obtain ⟨t1, h0, h⟩ := xs_some h
    obtain ⟨fs, e1, e2⟩ := xgR_some h0
    refine px_get rfl e1 e2 rfl ?_
    obtain ⟨t2, h0, h⟩ := xs_some h
    obtain ⟨fs, e1, e2⟩ := xgI_some h0
    refine px_get rfl e1 e2 rfl ?_
    refine px_iclt rfl rfl rfl (fun hc => ?_) (fun hc => ?_)
    · replace h := (if_pos hc).symm.trans h
      refine px_ld rfl rfl rfl rfl rfl ?_
      obtain ⟨t3, h0, h⟩ := xs_some h
      obtain ⟨fs, e1, e2⟩ := xgR_some h0
      refine px_get rfl e1 e2 rfl ?_
      refine px_ld rfl rfl rfl rfl rfl ?_
      refine px_ic (k := 8) rfl rfl rfl ?_
      obtain ⟨fs, h0, h⟩ := xs_some h
      have e1 := xo_some h0
      obtain ⟨t4, ph5, h0, h⟩ := xb_some h
      refine px_cV2 rfl rfl e1 rfl rfl rfl rfl rfl rfl rfl (r_Row_num h0 :) (fun _ _ q => nomatch q.2) (fun r ph' q => ?_)
      obtain ⟨rfl, q⟩ := q
      cases q
      cases h
      exact px_lret rfl rfl rfl ⟨rfl, rfl⟩
    · replace h := (if_neg hc).symm.trans h
      refine px_forget (n := 0) (lv' := [_, _]) rfl ?_
      refine px_forget (n := 1) (lv' := [_, _]) rfl ?_
      exact (r_H_out_15 h :)
def f_Link_countStaying_50 (F : Nat) (c : px_CT) (a1 : Int32) (ph : px_H) : Option (Int32 × px_H) :=
  some (a1, ph)
theorem r_Link_countStaying_50 {l : Launch} {g : px_G} {d F : Nat} {a1 : Int32} {ph : px_H} {r : Int32} {ph' : px_H} (h : f_Link_countStaying_50 F (px_ct g) a1 ph = some (r, ph')) : PW l g (d + 0) m_Link_countStaying 50 [px_u, .int a1, px_u] [] ph (px_qI r ph') := by
  unfold f_Link_countStaying_50 at h
  refine px_ld rfl rfl rfl rfl rfl ?_
  cases h
  exact px_iret rfl (Or.inl rfl) rfl ⟨rfl, rfl⟩
def f_Link_countStaying_42 (F : Nat) (c : px_CT) (k4 : Nat → Int32 → Int32 → px_H → Option (Int32 × px_H)) (a0 : Nat) (a2 : Int32) (s0 : Int32) (s1 : Int32) (ph : px_H) : Option (Int32 × px_H) :=
  k4 a0 (s0 + s1) (a2 + nI 1) ph
theorem r_Link_countStaying_42 {l : Launch} {g : px_G} {d F : Nat} {k4 : Nat → Int32 → Int32 → px_H → Option (Int32 × px_H)} (hk4 : ∀ {a0 : Nat} {a1 : Int32} {a2 : Int32} {ph : px_H} {r : Int32} {ph' : px_H}, k4 a0 a1 a2 ph = some (r, ph') → PW l g (d + 0) m_Link_countStaying 4 [.ref a0, .int a1, .int a2] [] ph (px_qI r ph')) {a0 : Nat} {a2 : Int32} {s0 : Int32} {s1 : Int32} {ph : px_H} {r : Int32} {ph' : px_H} (h : f_Link_countStaying_42 F (px_ct g) k4 a0 a2 s0 s1 ph = some (r, ph')) : PW l g (d + 0) m_Link_countStaying 42 [.ref a0, px_u, .int a2] [.int s1, .int s0] ph (px_qI r ph') := by
  unfold f_Link_countStaying_42 at h
  refine px_alu rfl rfl rfl ?_
  refine px_st (lv' := [_, _, _]) rfl rfl rfl rfl rfl rfl rfl ?_
  refine px_iinc (lv' := [_, _, _]) rfl rfl rfl rfl rfl rfl ?_
  refine px_goto rfl rfl rfl ?_
  exact (hk4 h :)
def f_Link_countStaying_4 (F : Nat) (c : px_CT) : Nat → Nat → Int32 → Int32 → px_H → Option (Int32 × px_H)
  | 0, _, _, _, _ => none
  | n + 1, a0, a1, a2, ph =>
    (xgI ph 3 14 a0).bind fun t1 =>
    if (t1 * (nI 24)) ≤ a2 then
      f_Link_countStaying_50 F c a1 ph
    else
      (xgR ph 3 4 a0).bind fun t2 =>
      (xal ph 6 t2).bind fun t3 =>
      if t3 ≤ a2 then
        f_Link_countStaying_50 F c a1 ph
      else
        (xgR ph 3 4 a0).bind fun t4 =>
        (xaN ph 6 t4 a2).bind fun t5 =>
        (t5).bind fun p6 =>
        (xgI ph 8 9 p6).bind fun t7 =>
        if t7 = 0 then
          f_Link_countStaying_42 F c (f_Link_countStaying_4 F c n) a0 a2 a1 (nI 0) ph
        else
          f_Link_countStaying_42 F c (f_Link_countStaying_4 F c n) a0 a2 a1 (nI 1) ph
theorem r_Link_countStaying_4 {l : Launch} {g : px_G} {d F : Nat} : ∀ (n : Nat) {a0 : Nat} {a1 : Int32} {a2 : Int32} {ph : px_H} {r : Int32} {ph' : px_H}, f_Link_countStaying_4 F (px_ct g) n a0 a1 a2 ph = some (r, ph') → PW l g (d + 0) m_Link_countStaying 4 [.ref a0, .int a1, .int a2] [] ph (px_qI r ph') := by
  intro n
  induction n with
  | zero => intro _ _ _ _ _ _ h; cases h
  | succ n ih =>
    intro a0 a1 a2 ph r ph' h
    unfold f_Link_countStaying_4 at h
    refine px_ld rfl rfl rfl rfl rfl ?_
    refine px_ld rfl rfl rfl rfl rfl ?_
    obtain ⟨t1, h0, h⟩ := xs_some h
    obtain ⟨fs, e1, e2⟩ := xgI_some h0
    refine px_get rfl e1 e2 rfl ?_
    refine px_ic (k := 24) rfl rfl rfl ?_
    refine px_alu rfl rfl rfl ?_
    refine px_icge rfl rfl rfl (fun hc => ?_) (fun hc => ?_)
    · replace h := (if_pos hc).symm.trans h
      refine px_forget (n := 0) (lv' := [_, _, _]) rfl ?_
      refine px_forget (n := 2) (lv' := [_, _, _]) rfl ?_
      exact (r_Link_countStaying_50 h :)
    · replace h := (if_neg hc).symm.trans h
      refine px_ld rfl rfl rfl rfl rfl ?_
      refine px_ld rfl rfl rfl rfl rfl ?_
      obtain ⟨t2, h0, h⟩ := xs_some h
      obtain ⟨fs, e1, e2⟩ := xgR_some h0
      refine px_get rfl e1 e2 rfl ?_
      obtain ⟨t3, h0, h⟩ := xs_some h
      obtain ⟨x, e1, e3⟩ := xal_some h0
      subst e3
      refine px_alen rfl e1 rfl rfl ?_
      refine px_icge rfl rfl rfl (fun hc => ?_) (fun hc => ?_)
      · replace h := (if_pos hc).symm.trans h
        refine px_forget (n := 0) (lv' := [_, _, _]) rfl ?_
        refine px_forget (n := 2) (lv' := [_, _, _]) rfl ?_
        exact (r_Link_countStaying_50 h :)
      · replace h := (if_neg hc).symm.trans h
        refine px_ld rfl rfl rfl rfl rfl ?_
        refine px_ld rfl rfl rfl rfl rfl ?_
        obtain ⟨t4, h0, h⟩ := xs_some h
        obtain ⟨fs, e1, e2⟩ := xgR_some h0
        refine px_get rfl e1 e2 rfl ?_
        refine px_ld rfl rfl rfl rfl rfl ?_
        obtain ⟨t5, h0, h⟩ := xs_some h
        obtain ⟨N, f, e1, e2, e3⟩ := xaN_some h0
        refine px_aaldO rfl e1 rfl e2 e3 rfl ?_
        obtain ⟨p6, h0, h⟩ := xs_some h
        revert h
        subst h0
        intro h
        obtain ⟨t7, h0, h⟩ := xs_some h
        obtain ⟨fs, e1, e2⟩ := xgI_some h0
        refine px_get rfl e1 e2 rfl ?_
        refine px_ifeq rfl rfl rfl (fun hc => ?_) (fun hc => ?_)
        · replace h := (if_pos hc).symm.trans h
          refine px_ic (k := 0) rfl rfl rfl ?_
          refine px_forget (n := 1) (lv' := [_, _, _]) rfl ?_
          exact (r_Link_countStaying_42 @ih h :)
        · replace h := (if_neg hc).symm.trans h
          refine px_ic (k := 1) rfl rfl rfl ?_
          refine px_goto rfl rfl rfl ?_
          refine px_forget (n := 1) (lv' := [_, _, _]) rfl ?_
          exact (r_Link_countStaying_42 @ih h :)
def f_Link_countStaying (F : Nat) (c : px_CT) (a0 : Nat) (ph : px_H) : Option (Int32 × px_H) :=
  f_Link_countStaying_4 F c F a0 (nI 0) (nI 0) ph
theorem r_Link_countStaying {l : Launch} {g : px_G} {d F : Nat} {a0 : Nat} {ph : px_H} {r : Int32} {ph' : px_H} (h : f_Link_countStaying F (px_ct g) a0 ph = some (r, ph')) : PW l g (d + 0) m_Link_countStaying 0 [.ref a0, px_u, px_u] [] ph (px_qI r ph') := by
  unfold f_Link_countStaying at h
  refine px_ic (k := 0) rfl rfl rfl ?_
  refine px_st (lv' := [_, _, _]) rfl rfl rfl rfl rfl rfl rfl ?_
  refine px_ic (k := 0) rfl rfl rfl ?_
  refine px_st (lv' := [_, _, _]) rfl rfl rfl rfl rfl rfl rfl ?_
  exact (r_Link_countStaying_4 _ h :)
