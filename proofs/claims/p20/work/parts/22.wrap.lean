/-! the law's methods with handlers, written by a program (wip/tools/genwrap.py): v: what the method answers; o: the row of one long that it goes to; k: what is answered for an exception of class number ce -/
section LAWW
variable {l : Launch} {g : px_G} {d : Nat} {ph : px_H} {Q : px_Q} {x o : Nat} {xf : List Value}
theorem wr_feed {p0 : Int32} {p1 : Int64} (hx : ph[x]? = some (.inr (0, xf))) (h : PW l g d m_H_feed 0 [.ref x, .int p0, .long p1, px_u] [] ph (fun r ph1 => (∃ v : Int32, r = .inl (some (.int v)) ∧ ∃ f, ph1[o]? = some (.inl (2, 1, .inr (.inl f))) ∧ Q (.inl (some (.int 0))) (ph1.set o (.inl (2, 1, .inr (.inl (vp_updL f 0 v.toInt64)))))) ∨ ∃ x9 ce, r = .inr x9 ∧ ph1[x9]? = some (.inr (ce, [])) ∧ ((ce = 13 ∧ Q (.inl (some (.int 1))) ph1) ∨ (ce = 14 ∧ Q (.inl (some (.int 2))) ph1)))) :
    PW l g (d + 1) m_L_feed 0 [.ref x, .int p0, .long p1, px_u, .ref o, px_u] [] ph Q := by
  refine px_ld rfl rfl rfl rfl rfl ?_
  refine px_alu rfl rfl rfl ?_
  refine px_ld rfl rfl rfl rfl rfl ?_
  refine px_ld rfl rfl rfl rfl rfl ?_
  refine px_ld rfl rfl rfl rfl rfl ?_
  refine px_callT (As := [.int p0, .long p1]) (st := [.int (nI 0), .ref o]) rfl rfl rfl rfl (pg_xtall _) hx rfl rfl rfl rfl rfl rfl h rfl (fun r ph1 q => ?_) (fun x9 ph1 q => ?_)
  · rcases q with ⟨v, hr, f, hf, hq⟩ | ⟨x9, ce, hr, -⟩
    · cases hr
      refine px_alu rfl rfl rfl ?_
      refine px_last rfl hf rfl (vp_in_nI (by decide) (by decide)) rfl ?_
      rw [show (nI 0).toNatClampNeg = 0 from by decide]
      refine px_goto rfl (by decide) rfl ?_
      refine px_alu rfl rfl rfl ?_
      exact px_iret rfl (Or.inl rfl) rfl hq
    · cases hr
  · rcases q with ⟨v, hr, -⟩ | ⟨y9, ce, hr, hc, hq⟩
    · cases hr
    · cases hr
      rcases hq with ⟨rfl, hq⟩ | ⟨rfl, hq⟩
      · refine ⟨13, 14, Or.inl rfl, hc, rfl, ?_⟩
        refine px_st (lv' := [_, _, _, _, _, _]) rfl rfl rfl rfl rfl rfl rfl ?_
        refine px_alu rfl rfl rfl ?_
        exact px_iret rfl (Or.inl rfl) rfl hq
      · refine ⟨14, 18, Or.inr (Or.inl rfl), hc, rfl, ?_⟩
        refine px_st (lv' := [_, _, _, _, _, _]) rfl rfl rfl rfl rfl rfl rfl ?_
        refine px_alu rfl rfl rfl ?_
        exact px_iret rfl (Or.inl rfl) rfl hq
theorem wr_add  (hx : ph[x]? = some (.inr (0, xf))) (h : PW l g d m_H_add 0 [.ref x, px_u] [] ph (fun r ph1 => (∃ v : Int32, r = .inl (some (.int v)) ∧ ∃ f, ph1[o]? = some (.inl (2, 1, .inr (.inl f))) ∧ Q (.inl (some (.int 0))) (ph1.set o (.inl (2, 1, .inr (.inl (vp_updL f 0 v.toInt64)))))) ∨ ∃ x9 ce, r = .inr x9 ∧ ph1[x9]? = some (.inr (ce, [])) ∧ ((ce = 14 ∧ Q (.inl (some (.int 1))) ph1)))) :
    PW l g (d + 1) m_L_add 0 [.ref x, .ref o, px_u] [] ph Q := by
  refine px_ld rfl rfl rfl rfl rfl ?_
  refine px_alu rfl rfl rfl ?_
  refine px_ld rfl rfl rfl rfl rfl ?_
  refine px_callT (As := []) (st := [.int (nI 0), .ref o]) rfl rfl rfl rfl (pg_xtall _) hx rfl rfl rfl rfl rfl rfl h rfl (fun r ph1 q => ?_) (fun x9 ph1 q => ?_)
  · rcases q with ⟨v, hr, f, hf, hq⟩ | ⟨x9, ce, hr, -⟩
    · cases hr
      refine px_alu rfl rfl rfl ?_
      refine px_last rfl hf rfl (vp_in_nI (by decide) (by decide)) rfl ?_
      rw [show (nI 0).toNatClampNeg = 0 from by decide]
      refine px_goto rfl (by decide) rfl ?_
      refine px_alu rfl rfl rfl ?_
      exact px_iret rfl (Or.inl rfl) rfl hq
    · cases hr
  · rcases q with ⟨v, hr, -⟩ | ⟨y9, ce, hr, hc, hq⟩
    · cases hr
    · cases hr
      obtain ⟨rfl, hq⟩ := hq
      refine ⟨14, 11, Or.inr (Or.inl rfl), hc, rfl, ?_⟩
      refine px_st (lv' := [_, _, _]) rfl rfl rfl rfl rfl rfl rfl ?_
      refine px_alu rfl rfl rfl ?_
      exact px_iret rfl (Or.inl rfl) rfl hq
theorem wr_drop  (hx : ph[x]? = some (.inr (0, xf))) (h : PW l g d m_H_drop 0 [.ref x] [] ph (fun r ph1 => (∃ v : Int32, r = .inl (some (.int v)) ∧ ∃ f, ph1[o]? = some (.inl (2, 1, .inr (.inl f))) ∧ Q (.inl (some (.int 0))) (ph1.set o (.inl (2, 1, .inr (.inl (vp_updL f 0 v.toInt64)))))) ∨ ∃ x9 ce, r = .inr x9 ∧ ph1[x9]? = some (.inr (ce, [])) ∧ ((ce = 14 ∧ Q (.inl (some (.int 1))) ph1)))) :
    PW l g (d + 1) m_L_drop 0 [.ref x, .ref o, px_u] [] ph Q := by
  refine px_ld rfl rfl rfl rfl rfl ?_
  refine px_alu rfl rfl rfl ?_
  refine px_ld rfl rfl rfl rfl rfl ?_
  refine px_callT (As := []) (st := [.int (nI 0), .ref o]) rfl rfl rfl rfl (pg_xtall _) hx rfl rfl rfl rfl rfl rfl h rfl (fun r ph1 q => ?_) (fun x9 ph1 q => ?_)
  · rcases q with ⟨v, hr, f, hf, hq⟩ | ⟨x9, ce, hr, -⟩
    · cases hr
      refine px_alu rfl rfl rfl ?_
      refine px_last rfl hf rfl (vp_in_nI (by decide) (by decide)) rfl ?_
      rw [show (nI 0).toNatClampNeg = 0 from by decide]
      refine px_goto rfl (by decide) rfl ?_
      refine px_alu rfl rfl rfl ?_
      exact px_iret rfl (Or.inl rfl) rfl hq
    · cases hr
  · rcases q with ⟨v, hr, -⟩ | ⟨y9, ce, hr, hc, hq⟩
    · cases hr
    · cases hr
      obtain ⟨rfl, hq⟩ := hq
      refine ⟨14, 11, Or.inr (Or.inl rfl), hc, rfl, ?_⟩
      refine px_st (lv' := [_, _, _]) rfl rfl rfl rfl rfl rfl rfl ?_
      refine px_alu rfl rfl rfl ?_
      exact px_iret rfl (Or.inl rfl) rfl hq
theorem wr_give {p0 : Int64} (hx : ph[x]? = some (.inr (0, xf))) (h : PW l g d m_H_give 0 [.ref x, .long p0, px_u, px_u] [] ph (fun r ph1 => (∃ v : Int32, r = .inl (some (.int v)) ∧ ∃ f, ph1[o]? = some (.inl (2, 1, .inr (.inl f))) ∧ Q (.inl (some (.int 0))) (ph1.set o (.inl (2, 1, .inr (.inl (vp_updL f 0 v.toInt64)))))) ∨ ∃ x9 ce, r = .inr x9 ∧ ph1[x9]? = some (.inr (ce, [])) ∧ ((ce = 13 ∧ Q (.inl (some (.int 1))) ph1) ∨ (ce = 14 ∧ Q (.inl (some (.int 2))) ph1)))) :
    PW l g (d + 1) m_L_give 0 [.ref x, .long p0, px_u, .ref o, px_u] [] ph Q := by
  refine px_ld rfl rfl rfl rfl rfl ?_
  refine px_alu rfl rfl rfl ?_
  refine px_ld rfl rfl rfl rfl rfl ?_
  refine px_ld rfl rfl rfl rfl rfl ?_
  refine px_callT (As := [.long p0]) (st := [.int (nI 0), .ref o]) rfl rfl rfl rfl (pg_xtall _) hx rfl rfl rfl rfl rfl rfl h rfl (fun r ph1 q => ?_) (fun x9 ph1 q => ?_)
  · rcases q with ⟨v, hr, f, hf, hq⟩ | ⟨x9, ce, hr, -⟩
    · cases hr
      refine px_alu rfl rfl rfl ?_
      refine px_last rfl hf rfl (vp_in_nI (by decide) (by decide)) rfl ?_
      rw [show (nI 0).toNatClampNeg = 0 from by decide]
      refine px_goto rfl (by decide) rfl ?_
      refine px_alu rfl rfl rfl ?_
      exact px_iret rfl (Or.inl rfl) rfl hq
    · cases hr
  · rcases q with ⟨v, hr, -⟩ | ⟨y9, ce, hr, hc, hq⟩
    · cases hr
    · cases hr
      rcases hq with ⟨rfl, hq⟩ | ⟨rfl, hq⟩
      · refine ⟨13, 12, Or.inl rfl, hc, rfl, ?_⟩
        refine px_st (lv' := [_, _, _, _, _]) rfl rfl rfl rfl rfl rfl rfl ?_
        refine px_alu rfl rfl rfl ?_
        exact px_iret rfl (Or.inl rfl) rfl hq
      · refine ⟨14, 16, Or.inr (Or.inl rfl), hc, rfl, ?_⟩
        refine px_st (lv' := [_, _, _, _, _]) rfl rfl rfl rfl rfl rfl rfl ?_
        refine px_alu rfl rfl rfl ?_
        exact px_iret rfl (Or.inl rfl) rfl hq
theorem wr_wish  (hx : ph[x]? = some (.inr (0, xf))) (h : PW l g d m_H_wish 0 [.ref x, px_u] [] ph (fun r ph1 => (∃ v : Int32, r = .inl (some (.int v)) ∧ ∃ f, ph1[o]? = some (.inl (2, 1, .inr (.inl f))) ∧ Q (.inl (some (.int 0))) (ph1.set o (.inl (2, 1, .inr (.inl (vp_updL f 0 v.toInt64)))))) ∨ ∃ x9 ce, r = .inr x9 ∧ ph1[x9]? = some (.inr (ce, [])) ∧ ((ce = 13 ∧ Q (.inl (some (.int 1))) ph1) ∨ (ce = 14 ∧ Q (.inl (some (.int 2))) ph1)))) :
    PW l g (d + 1) m_L_wish 0 [.ref x, .ref o, px_u] [] ph Q := by
  refine px_ld rfl rfl rfl rfl rfl ?_
  refine px_alu rfl rfl rfl ?_
  refine px_ld rfl rfl rfl rfl rfl ?_
  refine px_callT (As := []) (st := [.int (nI 0), .ref o]) rfl rfl rfl rfl (pg_xtall _) hx rfl rfl rfl rfl rfl rfl h rfl (fun r ph1 q => ?_) (fun x9 ph1 q => ?_)
  · rcases q with ⟨v, hr, f, hf, hq⟩ | ⟨x9, ce, hr, -⟩
    · cases hr
      refine px_alu rfl rfl rfl ?_
      refine px_last rfl hf rfl (vp_in_nI (by decide) (by decide)) rfl ?_
      rw [show (nI 0).toNatClampNeg = 0 from by decide]
      refine px_goto rfl (by decide) rfl ?_
      refine px_alu rfl rfl rfl ?_
      exact px_iret rfl (Or.inl rfl) rfl hq
    · cases hr
  · rcases q with ⟨v, hr, -⟩ | ⟨y9, ce, hr, hc, hq⟩
    · cases hr
    · cases hr
      rcases hq with ⟨rfl, hq⟩ | ⟨rfl, hq⟩
      · refine ⟨13, 11, Or.inl rfl, hc, rfl, ?_⟩
        refine px_st (lv' := [_, _, _]) rfl rfl rfl rfl rfl rfl rfl ?_
        refine px_alu rfl rfl rfl ?_
        exact px_iret rfl (Or.inl rfl) rfl hq
      · refine ⟨14, 14, Or.inr (Or.inl rfl), hc, rfl, ?_⟩
        refine px_st (lv' := [_, _, _]) rfl rfl rfl rfl rfl rfl rfl ?_
        refine px_alu rfl rfl rfl ?_
        exact px_iret rfl (Or.inl rfl) rfl hq
theorem wr_named  (hx : ph[x]? = some (.inr (0, xf))) (h : PW l g d m_H_named 0 [.ref x] [] ph (fun r ph1 => (∃ v : Int32, r = .inl (some (.int v)) ∧ ∃ f, ph1[o]? = some (.inl (2, 1, .inr (.inl f))) ∧ Q (.inl (some (.int 0))) (ph1.set o (.inl (2, 1, .inr (.inl (vp_updL f 0 v.toInt64)))))) ∨ ∃ x9 ce, r = .inr x9 ∧ ph1[x9]? = some (.inr (ce, [])) ∧ ((ce = 14 ∧ Q (.inl (some (.int 1))) ph1)))) :
    PW l g (d + 1) m_L_named 0 [.ref x, .ref o, px_u] [] ph Q := by
  refine px_ld rfl rfl rfl rfl rfl ?_
  refine px_alu rfl rfl rfl ?_
  refine px_ld rfl rfl rfl rfl rfl ?_
  refine px_callT (As := []) (st := [.int (nI 0), .ref o]) rfl rfl rfl rfl (pg_xtall _) hx rfl rfl rfl rfl rfl rfl h rfl (fun r ph1 q => ?_) (fun x9 ph1 q => ?_)
  · rcases q with ⟨v, hr, f, hf, hq⟩ | ⟨x9, ce, hr, -⟩
    · cases hr
      refine px_alu rfl rfl rfl ?_
      refine px_last rfl hf rfl (vp_in_nI (by decide) (by decide)) rfl ?_
      rw [show (nI 0).toNatClampNeg = 0 from by decide]
      refine px_goto rfl (by decide) rfl ?_
      refine px_alu rfl rfl rfl ?_
      exact px_iret rfl (Or.inl rfl) rfl hq
    · cases hr
  · rcases q with ⟨v, hr, -⟩ | ⟨y9, ce, hr, hc, hq⟩
    · cases hr
    · cases hr
      obtain ⟨rfl, hq⟩ := hq
      refine ⟨14, 11, Or.inr (Or.inl rfl), hc, rfl, ?_⟩
      refine px_st (lv' := [_, _, _]) rfl rfl rfl rfl rfl rfl rfl ?_
      refine px_alu rfl rfl rfl ?_
      exact px_iret rfl (Or.inl rfl) rfl hq
theorem wr_list {p0 : Int32} {p1 : Int32} (hx : ph[x]? = some (.inr (0, xf))) (h : PW l g d m_H_list 0 [.ref x, .int p0, .int p1, px_u] [] ph (fun r ph1 => (∃ v : Int32, r = .inl (some (.int v)) ∧ ∃ f, ph1[o]? = some (.inl (2, 1, .inr (.inl f))) ∧ Q (.inl (some (.int 0))) (ph1.set o (.inl (2, 1, .inr (.inl (vp_updL f 0 v.toInt64)))))) ∨ ∃ x9 ce, r = .inr x9 ∧ ph1[x9]? = some (.inr (ce, [])) ∧ ((ce = 15 ∧ Q (.inl (some (.int 1))) ph1)))) :
    PW l g (d + 1) m_L_list 0 [.ref x, .int p0, .int p1, .ref o, px_u] [] ph Q := by
  refine px_ld rfl rfl rfl rfl rfl ?_
  refine px_alu rfl rfl rfl ?_
  refine px_ld rfl rfl rfl rfl rfl ?_
  refine px_ld rfl rfl rfl rfl rfl ?_
  refine px_ld rfl rfl rfl rfl rfl ?_
  refine px_callT (As := [.int p0, .int p1]) (st := [.int (nI 0), .ref o]) rfl rfl rfl rfl (pg_xtall _) hx rfl rfl rfl rfl rfl rfl h rfl (fun r ph1 q => ?_) (fun x9 ph1 q => ?_)
  · rcases q with ⟨v, hr, f, hf, hq⟩ | ⟨x9, ce, hr, -⟩
    · cases hr
      refine px_alu rfl rfl rfl ?_
      refine px_last rfl hf rfl (vp_in_nI (by decide) (by decide)) rfl ?_
      rw [show (nI 0).toNatClampNeg = 0 from by decide]
      refine px_goto rfl (by decide) rfl ?_
      refine px_alu rfl rfl rfl ?_
      exact px_iret rfl (Or.inl rfl) rfl hq
    · cases hr
  · rcases q with ⟨v, hr, -⟩ | ⟨y9, ce, hr, hc, hq⟩
    · cases hr
    · cases hr
      obtain ⟨rfl, hq⟩ := hq
      refine ⟨15, 13, Or.inr (Or.inr rfl), hc, rfl, ?_⟩
      refine px_st (lv' := [_, _, _, _, _]) rfl rfl rfl rfl rfl rfl rfl ?_
      refine px_alu rfl rfl rfl ?_
      exact px_iret rfl (Or.inl rfl) rfl hq
theorem wr_sum {p0 : Int32} {p1 : Int32} {p2 : Int32} (hx : ph[x]? = some (.inr (0, xf))) (h : PW l g d m_H_sum 0 [.ref x, .int p0, .int p1, .int p2, px_u, px_u, px_u, px_u] [] ph (fun r ph1 => (∃ v : Int64, r = .inl (some (.long v)) ∧ ∃ f, ph1[o]? = some (.inl (2, 1, .inr (.inl f))) ∧ Q (.inl (some (.int 0))) (ph1.set o (.inl (2, 1, .inr (.inl (vp_updL f 0 v)))))) ∨ ∃ x9 ce, r = .inr x9 ∧ ph1[x9]? = some (.inr (ce, [])) ∧ ((ce = 15 ∧ Q (.inl (some (.int 1))) ph1)))) :
    PW l g (d + 1) m_L_sum 0 [.ref x, .int p0, .int p1, .int p2, .ref o, px_u] [] ph Q := by
  refine px_ld rfl rfl rfl rfl rfl ?_
  refine px_alu rfl rfl rfl ?_
  refine px_ld rfl rfl rfl rfl rfl ?_
  refine px_ld rfl rfl rfl rfl rfl ?_
  refine px_ld rfl rfl rfl rfl rfl ?_
  refine px_ld rfl rfl rfl rfl rfl ?_
  refine px_callT (As := [.int p0, .int p1, .int p2]) (st := [.int (nI 0), .ref o]) rfl rfl rfl rfl (pg_xtall _) hx rfl rfl rfl rfl rfl rfl h rfl (fun r ph1 q => ?_) (fun x9 ph1 q => ?_)
  · rcases q with ⟨v, hr, f, hf, hq⟩ | ⟨x9, ce, hr, -⟩
    · cases hr
      refine px_last rfl hf rfl (vp_in_nI (by decide) (by decide)) rfl ?_
      rw [show (nI 0).toNatClampNeg = 0 from by decide]
      refine px_goto rfl (by decide) rfl ?_
      refine px_alu rfl rfl rfl ?_
      exact px_iret rfl (Or.inl rfl) rfl hq
    · cases hr
  · rcases q with ⟨v, hr, -⟩ | ⟨y9, ce, hr, hc, hq⟩
    · cases hr
    · cases hr
      obtain ⟨rfl, hq⟩ := hq
      refine ⟨15, 14, Or.inr (Or.inr rfl), hc, rfl, ?_⟩
      refine px_st (lv' := [_, _, _, _, _, _]) rfl rfl rfl rfl rfl rfl rfl ?_
      refine px_alu rfl rfl rfl ?_
      exact px_iret rfl (Or.inl rfl) rfl hq
theorem wr_map  (hx : ph[x]? = some (.inr (0, xf))) (h : PW l g d m_H_map 0 [.ref x] [] ph (fun r ph1 => (∃ v : Int32, r = .inl (some (.int v)) ∧ ∃ f, ph1[o]? = some (.inl (2, 1, .inr (.inl f))) ∧ Q (.inl (some (.int 0))) (ph1.set o (.inl (2, 1, .inr (.inl (vp_updL f 0 v.toInt64)))))) ∨ ∃ x9 ce, r = .inr x9 ∧ ph1[x9]? = some (.inr (ce, [])) ∧ ((ce = 14 ∧ Q (.inl (some (.int 1))) ph1)))) :
    PW l g (d + 1) m_L_map 0 [.ref x, .ref o, px_u] [] ph Q := by
  refine px_ld rfl rfl rfl rfl rfl ?_
  refine px_alu rfl rfl rfl ?_
  refine px_ld rfl rfl rfl rfl rfl ?_
  refine px_callT (As := []) (st := [.int (nI 0), .ref o]) rfl rfl rfl rfl (pg_xtall _) hx rfl rfl rfl rfl rfl rfl h rfl (fun r ph1 q => ?_) (fun x9 ph1 q => ?_)
  · rcases q with ⟨v, hr, f, hf, hq⟩ | ⟨x9, ce, hr, -⟩
    · cases hr
      refine px_alu rfl rfl rfl ?_
      refine px_last rfl hf rfl (vp_in_nI (by decide) (by decide)) rfl ?_
      rw [show (nI 0).toNatClampNeg = 0 from by decide]
      refine px_goto rfl (by decide) rfl ?_
      refine px_alu rfl rfl rfl ?_
      exact px_iret rfl (Or.inl rfl) rfl hq
    · cases hr
  · rcases q with ⟨v, hr, -⟩ | ⟨y9, ce, hr, hc, hq⟩
    · cases hr
    · cases hr
      obtain ⟨rfl, hq⟩ := hq
      refine ⟨14, 11, Or.inr (Or.inl rfl), hc, rfl, ?_⟩
      refine px_st (lv' := [_, _, _]) rfl rfl rfl rfl rfl rfl rfl ?_
      refine px_alu rfl rfl rfl ?_
      exact px_iret rfl (Or.inl rfl) rfl hq
theorem wr_address  (hx : ph[x]? = some (.inr (0, xf))) (h : PW l g d m_H_address 0 [.ref x, px_u] [] ph (fun r ph1 => (∃ v : Int64, r = .inl (some (.long v)) ∧ ∃ f, ph1[o]? = some (.inl (2, 1, .inr (.inl f))) ∧ Q (.inl (some (.int 0))) (ph1.set o (.inl (2, 1, .inr (.inl (vp_updL f 0 v)))))) ∨ ∃ x9 ce, r = .inr x9 ∧ ph1[x9]? = some (.inr (ce, [])) ∧ ((ce = 14 ∧ Q (.inl (some (.int 1))) ph1)))) :
    PW l g (d + 1) m_L_address 0 [.ref x, .ref o, px_u] [] ph Q := by
  refine px_ld rfl rfl rfl rfl rfl ?_
  refine px_alu rfl rfl rfl ?_
  refine px_ld rfl rfl rfl rfl rfl ?_
  refine px_callT (As := []) (st := [.int (nI 0), .ref o]) rfl rfl rfl rfl (pg_xtall _) hx rfl rfl rfl rfl rfl rfl h rfl (fun r ph1 q => ?_) (fun x9 ph1 q => ?_)
  · rcases q with ⟨v, hr, f, hf, hq⟩ | ⟨x9, ce, hr, -⟩
    · cases hr
      refine px_last rfl hf rfl (vp_in_nI (by decide) (by decide)) rfl ?_
      rw [show (nI 0).toNatClampNeg = 0 from by decide]
      refine px_goto rfl (by decide) rfl ?_
      refine px_alu rfl rfl rfl ?_
      exact px_iret rfl (Or.inl rfl) rfl hq
    · cases hr
  · rcases q with ⟨v, hr, -⟩ | ⟨y9, ce, hr, hc, hq⟩
    · cases hr
    · cases hr
      obtain ⟨rfl, hq⟩ := hq
      refine ⟨14, 10, Or.inr (Or.inl rfl), hc, rfl, ?_⟩
      refine px_st (lv' := [_, _, _]) rfl rfl rfl rfl rfl rfl rfl ?_
      refine px_alu rfl rfl rfl ?_
      exact px_iret rfl (Or.inl rfl) rfl hq
theorem wr_taken {p0 : Int32} {p1 : Int32} (hx : ph[x]? = some (.inr (0, xf))) (h : PW l g d m_H_taken 0 [.ref x, .int p0, .int p1, px_u] [] ph (fun r ph1 => (∃ v : Int32, r = .inl (some (.int v)) ∧ ∃ f, ph1[o]? = some (.inl (2, 1, .inr (.inl f))) ∧ Q (.inl (some (.int 0))) (ph1.set o (.inl (2, 1, .inr (.inl (vp_updL f 0 (if v = 0 then 0 else 1))))))) ∨ ∃ x9 ce, r = .inr x9 ∧ ph1[x9]? = some (.inr (ce, [])) ∧ ((ce = 15 ∧ Q (.inl (some (.int 1))) ph1)))) :
    PW l g (d + 1) m_L_taken 0 [.ref x, .int p0, .int p1, .ref o, px_u] [] ph Q := by
  refine px_ld rfl rfl rfl rfl rfl ?_
  refine px_alu rfl rfl rfl ?_
  refine px_ld rfl rfl rfl rfl rfl ?_
  refine px_ld rfl rfl rfl rfl rfl ?_
  refine px_ld rfl rfl rfl rfl rfl ?_
  refine px_callT (As := [.int p0, .int p1]) (st := [.int (nI 0), .ref o]) rfl rfl rfl rfl (pg_xtall _) hx rfl rfl rfl rfl rfl rfl h rfl (fun r ph1 q => ?_) (fun x9 ph1 q => ?_)
  · rcases q with ⟨v, hr, f, hf, hq⟩ | ⟨x9, ce, hr, -⟩
    · cases hr
      refine px_ifeq rfl (by decide) rfl (fun hv => ?_) (fun hv => ?_)
      · rw [if_pos hv] at hq
        refine px_alu rfl rfl rfl ?_
        refine px_last rfl hf rfl (vp_in_nI (by decide) (by decide)) rfl ?_
        rw [show (nI 0).toNatClampNeg = 0 from by decide]
        refine px_goto rfl (by decide) rfl ?_
        refine px_alu rfl rfl rfl ?_
        exact px_iret rfl (Or.inl rfl) rfl hq
      · rw [if_neg hv] at hq
        refine px_alu rfl rfl rfl ?_
        refine px_goto rfl (by decide) rfl ?_
        refine px_last rfl hf rfl (vp_in_nI (by decide) (by decide)) rfl ?_
        rw [show (nI 0).toNatClampNeg = 0 from by decide]
        refine px_goto rfl (by decide) rfl ?_
        refine px_alu rfl rfl rfl ?_
        exact px_iret rfl (Or.inl rfl) rfl hq
    · cases hr
  · rcases q with ⟨v, hr, -⟩ | ⟨y9, ce, hr, hc, hq⟩
    · cases hr
    · cases hr
      obtain ⟨rfl, hq⟩ := hq
      refine ⟨15, 20, Or.inr (Or.inr rfl), hc, rfl, ?_⟩
      refine px_st (lv' := [_, _, _, _, _]) rfl rfl rfl rfl rfl rfl rfl ?_
      refine px_alu rfl rfl rfl ?_
      exact px_iret rfl (Or.inl rfl) rfl hq
theorem wr_cause {p0 : Int32} {p1 : Int32} (hx : ph[x]? = some (.inr (0, xf))) (h : PW l g d m_H_cause 0 [.ref x, .int p0, .int p1, px_u] [] ph (fun r ph1 => (∃ v : Int32, r = .inl (some (.int v)) ∧ ∃ f, ph1[o]? = some (.inl (2, 1, .inr (.inl f))) ∧ Q (.inl (some (.int 0))) (ph1.set o (.inl (2, 1, .inr (.inl (vp_updL f 0 v.toInt64)))))) ∨ ∃ x9 ce, r = .inr x9 ∧ ph1[x9]? = some (.inr (ce, [])) ∧ ((ce = 15 ∧ Q (.inl (some (.int 1))) ph1)))) :
    PW l g (d + 1) m_L_cause 0 [.ref x, .int p0, .int p1, .ref o, px_u] [] ph Q := by
  refine px_ld rfl rfl rfl rfl rfl ?_
  refine px_alu rfl rfl rfl ?_
  refine px_ld rfl rfl rfl rfl rfl ?_
  refine px_ld rfl rfl rfl rfl rfl ?_
  refine px_ld rfl rfl rfl rfl rfl ?_
  refine px_callT (As := [.int p0, .int p1]) (st := [.int (nI 0), .ref o]) rfl rfl rfl rfl (pg_xtall _) hx rfl rfl rfl rfl rfl rfl h rfl (fun r ph1 q => ?_) (fun x9 ph1 q => ?_)
  · rcases q with ⟨v, hr, f, hf, hq⟩ | ⟨x9, ce, hr, -⟩
    · cases hr
      refine px_alu rfl rfl rfl ?_
      refine px_last rfl hf rfl (vp_in_nI (by decide) (by decide)) rfl ?_
      rw [show (nI 0).toNatClampNeg = 0 from by decide]
      refine px_goto rfl (by decide) rfl ?_
      refine px_alu rfl rfl rfl ?_
      exact px_iret rfl (Or.inl rfl) rfl hq
    · cases hr
  · rcases q with ⟨v, hr, -⟩ | ⟨y9, ce, hr, hc, hq⟩
    · cases hr
    · cases hr
      obtain ⟨rfl, hq⟩ := hq
      refine ⟨15, 13, Or.inr (Or.inr rfl), hc, rfl, ?_⟩
      refine px_st (lv' := [_, _, _, _, _]) rfl rfl rfl rfl rfl rfl rfl ?_
      refine px_alu rfl rfl rfl ?_
      exact px_iret rfl (Or.inl rfl) rfl hq
theorem wr_section {p0 : Int32} {p1 : Int32} (hx : ph[x]? = some (.inr (0, xf))) (h : PW l g d m_H_section 0 [.ref x, .int p0, .int p1, px_u] [] ph (fun r ph1 => (∃ v : Int32, r = .inl (some (.int v)) ∧ ∃ f, ph1[o]? = some (.inl (2, 1, .inr (.inl f))) ∧ Q (.inl (some (.int 0))) (ph1.set o (.inl (2, 1, .inr (.inl (vp_updL f 0 v.toInt64)))))) ∨ ∃ x9 ce, r = .inr x9 ∧ ph1[x9]? = some (.inr (ce, [])) ∧ ((ce = 14 ∧ Q (.inl (some (.int 1))) ph1) ∨ (ce = 15 ∧ Q (.inl (some (.int 2))) ph1)))) :
    PW l g (d + 1) m_L_section 0 [.ref x, .int p0, .int p1, .ref o, px_u] [] ph Q := by
  refine px_ld rfl rfl rfl rfl rfl ?_
  refine px_alu rfl rfl rfl ?_
  refine px_ld rfl rfl rfl rfl rfl ?_
  refine px_ld rfl rfl rfl rfl rfl ?_
  refine px_ld rfl rfl rfl rfl rfl ?_
  refine px_callT (As := [.int p0, .int p1]) (st := [.int (nI 0), .ref o]) rfl rfl rfl rfl (pg_xtall _) hx rfl rfl rfl rfl rfl rfl h rfl (fun r ph1 q => ?_) (fun x9 ph1 q => ?_)
  · rcases q with ⟨v, hr, f, hf, hq⟩ | ⟨x9, ce, hr, -⟩
    · cases hr
      refine px_alu rfl rfl rfl ?_
      refine px_last rfl hf rfl (vp_in_nI (by decide) (by decide)) rfl ?_
      rw [show (nI 0).toNatClampNeg = 0 from by decide]
      refine px_goto rfl (by decide) rfl ?_
      refine px_alu rfl rfl rfl ?_
      exact px_iret rfl (Or.inl rfl) rfl hq
    · cases hr
  · rcases q with ⟨v, hr, -⟩ | ⟨y9, ce, hr, hc, hq⟩
    · cases hr
    · cases hr
      rcases hq with ⟨rfl, hq⟩ | ⟨rfl, hq⟩
      · refine ⟨14, 13, Or.inr (Or.inl rfl), hc, rfl, ?_⟩
        refine px_st (lv' := [_, _, _, _, _]) rfl rfl rfl rfl rfl rfl rfl ?_
        refine px_alu rfl rfl rfl ?_
        exact px_iret rfl (Or.inl rfl) rfl hq
      · refine ⟨15, 17, Or.inr (Or.inr rfl), hc, rfl, ?_⟩
        refine px_st (lv' := [_, _, _, _, _]) rfl rfl rfl rfl rfl rfl rfl ?_
        refine px_alu rfl rfl rfl ?_
        exact px_iret rfl (Or.inl rfl) rfl hq
theorem wr_place {p0 : Int32} (hx : ph[x]? = some (.inr (0, xf))) (h : PW l g d m_H_place 0 [.ref x, .int p0] [] ph (fun r ph1 => (∃ v : Int64, r = .inl (some (.long v)) ∧ ∃ f, ph1[o]? = some (.inl (2, 1, .inr (.inl f))) ∧ Q (.inl (some (.int 0))) (ph1.set o (.inl (2, 1, .inr (.inl (vp_updL f 0 v)))))) ∨ ∃ x9 ce, r = .inr x9 ∧ ph1[x9]? = some (.inr (ce, [])) ∧ ((ce = 14 ∧ Q (.inl (some (.int 1))) ph1) ∨ (ce = 15 ∧ Q (.inl (some (.int 2))) ph1)))) :
    PW l g (d + 1) m_L_place 0 [.ref x, .int p0, .ref o, px_u] [] ph Q := by
  refine px_ld rfl rfl rfl rfl rfl ?_
  refine px_alu rfl rfl rfl ?_
  refine px_ld rfl rfl rfl rfl rfl ?_
  refine px_ld rfl rfl rfl rfl rfl ?_
  refine px_callT (As := [.int p0]) (st := [.int (nI 0), .ref o]) rfl rfl rfl rfl (pg_xtall _) hx rfl rfl rfl rfl rfl rfl h rfl (fun r ph1 q => ?_) (fun x9 ph1 q => ?_)
  · rcases q with ⟨v, hr, f, hf, hq⟩ | ⟨x9, ce, hr, -⟩
    · cases hr
      refine px_last rfl hf rfl (vp_in_nI (by decide) (by decide)) rfl ?_
      rw [show (nI 0).toNatClampNeg = 0 from by decide]
      refine px_goto rfl (by decide) rfl ?_
      refine px_alu rfl rfl rfl ?_
      exact px_iret rfl (Or.inl rfl) rfl hq
    · cases hr
  · rcases q with ⟨v, hr, -⟩ | ⟨y9, ce, hr, hc, hq⟩
    · cases hr
    · cases hr
      rcases hq with ⟨rfl, hq⟩ | ⟨rfl, hq⟩
      · refine ⟨14, 11, Or.inr (Or.inl rfl), hc, rfl, ?_⟩
        refine px_st (lv' := [_, _, _, _]) rfl rfl rfl rfl rfl rfl rfl ?_
        refine px_alu rfl rfl rfl ?_
        exact px_iret rfl (Or.inl rfl) rfl hq
      · refine ⟨15, 14, Or.inr (Or.inr rfl), hc, rfl, ?_⟩
        refine px_st (lv' := [_, _, _, _]) rfl rfl rfl rfl rfl rfl rfl ?_
        refine px_alu rfl rfl rfl ?_
        exact px_iret rfl (Or.inl rfl) rfl hq
theorem wr_out {p0 : Int32} (hx : ph[x]? = some (.inr (0, xf))) (h : PW l g d m_H_out 0 [.ref x, .int p0] [] ph (fun r ph1 => (∃ v : Int64, r = .inl (some (.long v)) ∧ ∃ f, ph1[o]? = some (.inl (2, 1, .inr (.inl f))) ∧ Q (.inl (some (.int 0))) (ph1.set o (.inl (2, 1, .inr (.inl (vp_updL f 0 v)))))) ∨ ∃ x9 ce, r = .inr x9 ∧ ph1[x9]? = some (.inr (ce, [])) ∧ ((ce = 15 ∧ Q (.inl (some (.int 1))) ph1)))) :
    PW l g (d + 1) m_L_out 0 [.ref x, .int p0, .ref o, px_u] [] ph Q := by
  refine px_ld rfl rfl rfl rfl rfl ?_
  refine px_alu rfl rfl rfl ?_
  refine px_ld rfl rfl rfl rfl rfl ?_
  refine px_ld rfl rfl rfl rfl rfl ?_
  refine px_callT (As := [.int p0]) (st := [.int (nI 0), .ref o]) rfl rfl rfl rfl (pg_xtall _) hx rfl rfl rfl rfl rfl rfl h rfl (fun r ph1 q => ?_) (fun x9 ph1 q => ?_)
  · rcases q with ⟨v, hr, f, hf, hq⟩ | ⟨x9, ce, hr, -⟩
    · cases hr
      refine px_last rfl hf rfl (vp_in_nI (by decide) (by decide)) rfl ?_
      rw [show (nI 0).toNatClampNeg = 0 from by decide]
      refine px_goto rfl (by decide) rfl ?_
      refine px_alu rfl rfl rfl ?_
      exact px_iret rfl (Or.inl rfl) rfl hq
    · cases hr
  · rcases q with ⟨v, hr, -⟩ | ⟨y9, ce, hr, hc, hq⟩
    · cases hr
    · cases hr
      obtain ⟨rfl, hq⟩ := hq
      refine ⟨15, 11, Or.inr (Or.inr rfl), hc, rfl, ?_⟩
      refine px_st (lv' := [_, _, _, _]) rfl rfl rfl rfl rfl rfl rfl ?_
      refine px_alu rfl rfl rfl ?_
      exact px_iret rfl (Or.inl rfl) rfl hq
theorem wr_look {p0 : Int32} (hx : ph[x]? = some (.inr (0, xf))) (h : PW l g d m_H_look 0 [.ref x, .int p0] [] ph (fun r ph1 => (∃ v : Int64, r = .inl (some (.long v)) ∧ ∃ f, ph1[o]? = some (.inl (2, 1, .inr (.inl f))) ∧ Q (.inl (some (.int 0))) (ph1.set o (.inl (2, 1, .inr (.inl (vp_updL f 0 v)))))) ∨ ∃ x9 ce, r = .inr x9 ∧ ph1[x9]? = some (.inr (ce, [])) ∧ ((ce = 13 ∧ Q (.inl (some (.int 1))) ph1)))) :
    PW l g (d + 1) m_L_look 0 [.ref x, .int p0, .ref o, px_u] [] ph Q := by
  refine px_ld rfl rfl rfl rfl rfl ?_
  refine px_alu rfl rfl rfl ?_
  refine px_ld rfl rfl rfl rfl rfl ?_
  refine px_ld rfl rfl rfl rfl rfl ?_
  refine px_callT (As := [.int p0]) (st := [.int (nI 0), .ref o]) rfl rfl rfl rfl (pg_xtall _) hx rfl rfl rfl rfl rfl rfl h rfl (fun r ph1 q => ?_) (fun x9 ph1 q => ?_)
  · rcases q with ⟨v, hr, f, hf, hq⟩ | ⟨x9, ce, hr, -⟩
    · cases hr
      refine px_last rfl hf rfl (vp_in_nI (by decide) (by decide)) rfl ?_
      rw [show (nI 0).toNatClampNeg = 0 from by decide]
      refine px_goto rfl (by decide) rfl ?_
      refine px_alu rfl rfl rfl ?_
      exact px_iret rfl (Or.inl rfl) rfl hq
    · cases hr
  · rcases q with ⟨v, hr, -⟩ | ⟨y9, ce, hr, hc, hq⟩
    · cases hr
    · cases hr
      obtain ⟨rfl, hq⟩ := hq
      refine ⟨13, 11, Or.inl rfl, hc, rfl, ?_⟩
      refine px_st (lv' := [_, _, _, _]) rfl rfl rfl rfl rfl rfl rfl ?_
      refine px_alu rfl rfl rfl ?_
      exact px_iret rfl (Or.inl rfl) rfl hq
end LAWW
