/-! start, ownNames of the reference -/
abbrev wST : List Nat := [95, 115, 116, 97, 114, 116]
abbrev wO1 : List Nat := [95, 101, 116, 101, 120, 116]
abbrev wO2 : List Nat := [95, 101, 100, 97, 116, 97]
abbrev wO3 : List Nat := [95, 95, 98, 115, 115, 95, 115, 116, 97, 114, 116]
abbrev wO4 : List Nat := [95, 101, 110, 100]
/-- the constant texts -/
def RC (σ : px_S) : Prop := srcT (gA σ 116) 0 wST ∧ srcT (gA σ 97) 0 wO1 ∧ srcT (gA σ 97) 6 wO2 ∧ srcT (gA σ 97) 12 wO3 ∧ srcT (gA σ 97) 23 wO4
theorem RC_FR {σ σ' : px_S} {I J A B : List Nat} (h : RC σ) (f : FR I J A B σ σ') (h1 : 116 ∉ A) (h2 : 97 ∉ A) : RC σ' := by
  unfold RC
  rw [f.2.2.1 116 h1, f.2.2.1 97 h2]
  exact h
def stN (xs : px_NL) (i : Nat) : Nat := (xs.getD i ([], nr0)).2.1
theorem stN_at {xs : px_NL} {i : Nat} {x : List Nat × px_NR} (h : xs[i]? = some x) : stN xs i = x.2.1 := by
  unfold stN
  rw [List.getD_eq_getElem?_getD, h]
  rfl
/-- the name w, if it is there and has a definition -/
def dfI (w : List Nat) (xs : px_NL) : Option Nat := match idx w 0 (xs.map Prod.fst) with
  | none => none
  | some i => if stN xs i = 0 then none else some i
/-- own name k: w -/
def own1 (k : Nat) (w : List Nat) (xs : px_NL) : px_NL := match idx w 0 (xs.map Prod.fst) with
  | none => xs
  | some i => if stN xs i = 0 then setR xs i (fun r => (4, r.2.1, k, r.2.2.2)) else xs
def ownL (xs : px_NL) : px_NL := own1 4 wO4 (own1 3 wO3 (own1 2 wO2 (own1 1 wO1 xs)))
theorem setR_fst {xs : px_NL} {i : Nat} {f : px_NR → px_NR} : (setR xs i f).map Prod.fst = xs.map Prod.fst := by
  unfold setR
  cases e : xs[i]? with
  | none => rfl
  | some x =>
    show (xs.set i (x.1, f x.2)).map Prod.fst = _
    rw [List.map_set]
    apply List.ext_getElem?
    intro j
    by_cases c : i = j
    · rw [← c, List.getElem?_set_self (by rw [List.length_map]; exact (List.getElem?_eq_some_iff.mp e).1), List.getElem?_map, e]; rfl
    · rw [List.getElem?_set_ne c]
theorem own1_len {k : Nat} {w : List Nat} {xs : px_NL} : (own1 k w xs).length = xs.length := by
  unfold own1
  split
  · rfl
  · split
    · rw [setR_len]
    · rfl
theorem own1_ok {k : Nat} {w : List Nat} {xs : px_NL} (h : okL xs) : okL (own1 k w xs) := by
  unfold own1
  split
  · exact h
  · split
    · exact okL_setR h (fun r hr => ⟨Nat.le_refl 4, hr.2⟩)
    · exact h
theorem own1_fst {k : Nat} {w : List Nat} {xs : px_NL} : (own1 k w xs).map Prod.fst = xs.map Prod.fst := by
  unfold own1
  split
  · rfl
  · split
    · exact setR_fst
    · rfl
theorem ownL_fst {xs : px_NL} : (ownL xs).map Prod.fst = xs.map Prod.fst := by
  unfold ownL
  rw [own1_fst, own1_fst, own1_fst, own1_fst]
theorem ownL_ok {xs : px_NL} (h : okL xs) : okL (ownL xs) := own1_ok (own1_ok (own1_ok (own1_ok h)))
section MOW
variable {F m : Nat} {h : px_H} {xs : px_NL}
theorem q_start {σ : px_S} (hm : m ≤ h.length) (hF : 4096 < F) (hr : RL σ xs) (hok : okL xs) (hc : RC σ) : f_M_start F m (mh m h σ) = some (tdA (dfI wST xs), mh m h σ) := by
  have hf := q_find (F := F) (h := h) (σ := σ) (pa := m + 79) (p := 0) (w := wST) (M := 6) hm hF hr.1 (fun i hi => Ma116 hm hi) hc.1 (by decide) (by decide) (by decide)
  have hf : f_M_find F m (m + 79) (nI 0) (nI 6) (mh m h σ) = some (tdA (idx wST 0 (xs.map Prod.fst)), mh m h σ) := hf
  have hxl : xs.length ≤ 4096 := by have := hr.1.2.1; rw [List.length_map] at this; exact this
  unfold f_M_start f_M_start_29 f_M_start_30 dfI
  rw [Mr116 hm, bs, e_o hm, bs, hf, xb_mk]
  cases ei : idx wST 0 (xs.map Prod.fst) with
  | none => rw [if_pos (show tdA none < 0 from m1_neg)]; rfl
  | some i =>
    have hi := idx_lt ei
    rw [List.length_map] at hi
    obtain ⟨x, hx⟩ : ∃ x, xs[i]? = some x := ⟨xs[i]'(by omega), List.getElem?_eq_getElem (by omega)⟩
    have hx4 := (hok i x hx).1
    rw [if_neg (show ¬ tdA (some i) < 0 from nI_pos (by omega)), show tdA (some i) = nI i from rfl, Mr23 hm, bs, Ma23 hm (by omega), bs, (hr.2 i x hx).1]
    show _ = some (tdA (if stN xs i = 0 then none else some i), _)
    rw [stN_at hx]
    by_cases c : x.2.1 = 0
    · rw [c, if_pos (show nI 0 ≤ 0 by decide), if_pos rfl]; rfl
    · rw [if_neg (show ¬ nI x.2.1 ≤ 0 from nI_ge (a := 0) (by omega) (by omega)), if_neg c]; rfl
theorem q_oN_77 {k pe s0 : Nat} {w : List Nat} {k2 : Nat → Int32 → px_H → Option (Unit × px_H)} {σ : px_S} (hm : m ≤ h.length) (hF : 4096 < F) (hr : RL σ xs) (hok : okL xs) (hs : srcT (gA σ 97) s0 w) (hw : ∀ x, x ∈ w → x < 256) (hM : s0 + w.length = pe) (hpe : pe ≤ 27) : ∃ σ', f_M_ownNames_77 F k2 m (nI k) m (m + 66) (nI s0) (nI pe) (mh m h σ) = k2 m (nI (k + 1)) (mh m h σ') ∧ RL σ' (own1 k w xs) ∧ FR [] [] [23, 73] [] σ σ' := by
  have hf := q_find (F := F) (h := h) (σ := σ) (pa := m + 66) (p := s0) (w := w) (M := 27) hm hF hr.1 (fun i hi => Ma97 hm hi) hs hw (by omega) (by decide)
  rw [hM] at hf
  have hxl : xs.length ≤ 4096 := by have := hr.1.2.1; rw [List.length_map] at this; exact this
  unfold f_M_ownNames_77 f_M_ownNames_111 own1
  rw [e_o hm, bs, hf, xb_mk, nI_add]
  cases ei : idx w 0 (xs.map Prod.fst) with
  | none =>
    rw [if_pos (show tdA none < 0 from m1_neg)]
    exact ⟨σ, rfl, hr, FR_refl σ⟩
  | some i =>
    have hi := idx_lt ei
    rw [List.length_map] at hi
    obtain ⟨x, hx⟩ : ∃ x, xs[i]? = some x := ⟨xs[i]'(by omega), List.getElem?_eq_getElem (by omega)⟩
    have hx4 := (hok i x hx).1
    have rr := hr.2 i x hx
    rw [if_neg (show ¬ tdA (some i) < 0 from nI_pos (by omega)), show tdA (some i) = nI i from rfl, Mr23 hm, bs, Ma23 hm (by omega), bs, rr.1]
    show ∃ σ', _ ∧ RL σ' (if stN xs i = 0 then setR xs i (fun r => (4, r.2.1, k, r.2.2.2)) else xs) ∧ _
    rw [stN_at hx]
    by_cases c : x.2.1 = 0
    · rw [c, if_pos (show nI 0 ≤ 0 by decide), if_pos rfl, bs, Ms23 hm (by omega), bs, Mr73 hm, bs, Ms73 hm (by omega), bs]
      obtain ⟨σ1, hσ1⟩ : ∃ s, s = sA (sA σ 23 (upd (gA σ 23) i (nI 4))) 73 (upd (gA (sA σ 23 (upd (gA σ 23) i (nI 4))) 73) i (nI k)) := ⟨_, rfl⟩
      rw [← hσ1]
      have f1 : FR [] [] [23, 73] [] σ σ1 := by
        rw [hσ1]
        exact FR_trans (FR_mono (FR_A σ 23 _) (by decide) (by decide) (by decide) (by decide)) (FR_mono (FR_A _ 73 _) (by decide) (by decide) (by decide) (by decide))
      have e23 : gA σ1 23 = upd (gA σ 23) i (nI 4) := by rw [hσ1]; rfl
      have e73 : gA σ1 73 = upd (gA σ 73) i (nI k) := by rw [hσ1]; rfl
      refine ⟨σ1, rfl, ?_, f1⟩
      have es : setR xs i (fun r => (4, r.2.1, k, r.2.2.2)) = xs.set i (x.1, (4, x.2.2.1, k, x.2.2.2.2)) := by unfold setR; rw [hx]
      rw [es]
      refine RL_set hr (w := x.1) (r := x.2) hx (f1.1 20 (by decide)) (f1.2.2.1 21 (by decide)) (f1.2.2.1 22 (by decide)) (fun q j hq hj => ?_) (fun j _ => by rw [f1.2.2.2 30 (by decide)]) ⟨?_, ?_, ?_, ?_, ?_, fun q => nomatch q⟩
      · rcases hq with e | e | e | e | e | e | e
        · rw [e, e23, upd_ne hj]
        · rw [e, f1.2.2.1 24 (by decide)]
        · rw [e, f1.2.2.1 25 (by decide)]
        · rw [e, f1.2.2.1 26 (by decide)]
        · rw [e, f1.2.2.1 27 (by decide)]
        · rw [e, f1.2.2.1 28 (by decide)]
        · rw [e, e73, upd_ne hj]
      · rw [e23, upd_eq]
      · rw [f1.2.2.1 28 (by decide)]; exact rr.2.1
      · rw [e73, upd_eq]
      · exact rBy_eq rr.2.2.2.1 (by rw [f1.2.2.1 24 (by decide)]) (by rw [f1.2.2.1 25 (by decide)])
      · rw [f1.2.2.2 30 (by decide)]; exact rr.2.2.2.2.1
    · rw [if_neg (show ¬ nI x.2.1 ≤ 0 from nI_ge (a := 0) (by omega) (by omega)), if_neg c]
      exact ⟨σ, rfl, hr, FR_refl σ⟩
theorem q_ownNames {σ : px_S} (hm : m ≤ h.length) (hF : 4096 < F) (hr : RL σ xs) (hok : okL xs) (hc : RC σ) : ∃ σ', f_M_ownNames F m (mh m h σ) = some ((), mh m h σ') ∧ RL σ' (ownL xs) ∧ FR [] [] [23, 73] [] σ σ' := by
  obtain ⟨F1, hF1⟩ : ∃ x, F = x + 5 := ⟨F - 5, by omega⟩
  obtain ⟨σ1, a1, a2, a3⟩ := q_oN_77 (F := F) (k := 1) (pe := 6) (s0 := 0) (w := wO1) (k2 := f_M_ownNames_2 F (F1 + 4)) hm hF hr hok hc.2.1 (by decide) (by decide) (by decide)
  have hc1 := RC_FR hc a3 (by decide) (by decide)
  obtain ⟨σ2, b1, b2, b3⟩ := q_oN_77 (F := F) (k := 2) (pe := 12) (s0 := 6) (w := wO2) (k2 := f_M_ownNames_2 F (F1 + 3)) hm hF a2 (own1_ok hok) hc1.2.2.1 (by decide) (by decide) (by decide)
  have hc2 := RC_FR hc1 b3 (by decide) (by decide)
  obtain ⟨σ3, d1, d2, d3⟩ := q_oN_77 (F := F) (k := 3) (pe := 23) (s0 := 12) (w := wO3) (k2 := f_M_ownNames_2 F (F1 + 2)) hm hF b2 (own1_ok (own1_ok hok)) hc2.2.2.2.1 (by decide) (by decide) (by decide)
  have hc3 := RC_FR hc2 d3 (by decide) (by decide)
  obtain ⟨σ4, g1, g2, g3⟩ := q_oN_77 (F := F) (k := 4) (pe := 27) (s0 := 23) (w := wO4) (k2 := f_M_ownNames_2 F (F1 + 1)) hm hF d2 (own1_ok (own1_ok (own1_ok hok))) hc3.2.2.2.2 (by decide) (by decide) (by decide)
  refine ⟨σ4, ?_, g2, FR_trans a3 (FR_trans b3 (FR_trans d3 g3))⟩
  have e1 : f_M_ownNames F m (mh m h σ) = f_M_ownNames_2 F (F1 + 5) m (nI 1) (mh m h σ) := by unfold f_M_ownNames; rw [← hF1]
  rw [e1]
  unfold f_M_ownNames_2 f_M_ownNames_38
  rw [if_neg (by decide), if_pos rfl, Mr97 hm, bs, if_pos rfl, a1]
  unfold f_M_ownNames_2 f_M_ownNames_38
  rw [if_neg (by decide), if_neg (by decide), if_pos rfl, Mr97 hm, bs, if_neg (by decide), if_pos rfl, b1]
  unfold f_M_ownNames_2 f_M_ownNames_38
  rw [if_neg (by decide), if_neg (by decide), if_neg (by decide), if_pos rfl, Mr97 hm, bs, if_neg (by decide), if_neg (by decide), if_pos rfl, d1]
  unfold f_M_ownNames_2 f_M_ownNames_38
  rw [if_neg (by decide), if_neg (by decide), if_neg (by decide), if_neg (by decide), Mr97 hm, bs, if_neg (by decide), if_neg (by decide), if_neg (by decide), g1]
  unfold f_M_ownNames_2 f_M_ownNames_117
  rw [if_pos (by decide)]
end MOW
