/-! what is taken keeps what every symbol keeps; commons, own names, the order of definitions -/
section MTI
variable {fs : px_FS} {P : px_TS → Prop}
theorem tkM_inv (hP : ∀ dr t b k s, yOK b k = true → P s → P (tk1 dr t b k s)) {s : px_TK} {q n : Nat} {b : Nat → Nat} (he : eObj b n = 0) (h : P s.1) : P (tkM b q s).1 := by
  obtain ⟨w, hy, _⟩ := eObj_0 he
  by_cases c : oM b = 0
  · show P (itr _ 1 (oM b - 1) s.1)
    rw [c]; exact h
  · exact itr_inv (g := tk1 (itr (dg1 s.2.2.1.length b) 1 (oS b - 1) s.2.1).1 s.2.2.1.length b) (P := P) (a := 1) (e := oM b) (fun i s h1 h2 hs => hP _ _ _ _ _ (hy i h1 h2) hs) (oM b - 1) 1 s.1 (Nat.le_refl _) (by omega) h
theorem TK_inv (hP : ∀ dr t b k s, yOK b k = true → P s → P (tk1 dr t b k s)) (hf : FSo fs) {xs : px_NL} {od : List Nat} (h0 : P (0, xs, od, none)) : P (taL fs xs od).1 := by
  have h1 : ∀ f k (p : px_TK × Bool), P p.1.1 → P (tf1 fs f k p).1.1 := fun f k p hp => by
    rcases tf1_cs2 (fs := fs) (f := f) (k := k) (p := p) with e | ⟨o, n, b, ca, a1, a2, e⟩
    · rw [e]; exact hp
    · rw [e]
      exact tkM_inv hP (s := (p.1.1, p.1.2.1, p.1.2.2.1, ca)) (hf _ _ _ _ a1).2 hp
  have h2 : ∀ f c (s : px_TK), P s.1 → P (tfL fs f c s).1 := fun f c s hs => by
    unfold tfL
    refine whl_inv (st := tfS) (g := rdF fs f) (P := fun s : px_TK => P s.1) (fun s hs => ?_) c s hs
    unfold rdF
    exact itr_inv (g := tf1 fs f) (P := fun p : px_TK × Bool => P p.1.1) (a := 0) (e := 8) (fun k p _ _ hp => h1 f k p hp) 8 0 (s, false) (Nat.le_refl _) (Nat.le_refl _) hs
  have h3 : ∀ f (s : px_TK), P s.1 → P (ta1 fs f s).1 := fun f s hs => by
    unfold ta1
    split
    · exact hs
    · split
      · exact hs
      · rename_i x hx
        split
        · exact h2 f 9 s hs
        · rename_i ea
          have hob := obAt_8 hx (Bool.eq_false_iff.mpr ea)
          exact tkM_inv hP (hf _ _ _ _ hob).2 hs
  unfold taL
  exact itr_inv (g := ta1 fs) (P := fun s : px_TK => P s.1) (a := 0) (e := 8) (fun f s _ _ hs => h3 f s hs) 8 0 ((0, xs, od, none), (fun _ => false, 0, []), [], fun _ => none) (Nat.le_refl _) (Nat.le_refl _) h0
end MTI
theorem stN_ent {w : List Nat} {xs : px_NL} {d : Nat} : stN (entL w xs) d = stN xs d := by
  unfold entL
  split
  · rfl
  · unfold stN
    rw [List.getD_eq_getElem?_getD, List.getD_eq_getElem?_getD]
    by_cases c : d < xs.length
    · rw [List.getElem?_append_left c]
    · rw [List.getElem?_append_right (by omega), List.getElem?_eq_none (l := xs) (by omega)]
      by_cases e : d - xs.length = 0
      · rw [e]; rfl
      · rw [List.getElem?_eq_none (by show 1 ≤ _; omega)]
theorem stN_setR {xs : px_NL} {i d : Nat} {f : px_NR → px_NR} {x : List Nat × px_NR} (h : xs[i]? = some x) : stN (setR xs i f) d = if d = i then (f x.2).1 else stN xs d := by
  unfold setR
  rw [h]
  show stN (xs.set i (x.1, f x.2)) d = _
  unfold stN
  rw [List.getD_eq_getElem?_getD, List.getD_eq_getElem?_getD]
  by_cases c : d = i
  · rw [c, if_pos rfl, List.getElem?_set_self (List.getElem?_eq_some_iff.mp h).1]; rfl
  · rw [if_neg c, List.getElem?_set_ne (fun q => c q.symm)]
def cmP (x : List Nat × px_NR) : Prop := (x.2.1 = 2 → (1 ≤ x.2.2.2.2.2.2.2 ∧ x.2.2.2.2.2.2.2 ≤ 4096) ∧ x.2.2.2.2.2.2.1 ≤ 16384) ∧ x.2.2.2.1 ≤ 4
theorem cmP_nr {w : List Nat} : cmP (w, nr0) := ⟨fun q => (nomatch q), Nat.zero_le _⟩
theorem cmP_cm {s t k z v : Nat} {w : List Nat} {r : px_NR} (h : cmP (w, r)) (hz : s = 2 → (1 ≤ v ∧ v ≤ 4096) ∧ z ≤ 16384) : cmP (w, cmS s t k z v r) := by
  unfold cmS
  by_cases c1 : r.1 < s
  · rw [if_pos c1]
    refine ⟨fun q => ?_, h.2⟩
    have q : s = 2 := q
    have := hz q
    show (1 ≤ (if s = 2 then v else 0) ∧ (if s = 2 then v else 0) ≤ 4096) ∧ (if s = 2 then z else 0) ≤ 16384
    rw [if_pos q, if_pos q]
    exact this
  · rw [if_neg c1]
    by_cases c2 : s = 2 ∧ r.1 = 2
    · rw [if_pos c2]
      have h1 := h.1 c2.2
      have h2 := hz c2.1
      refine ⟨fun _ => ?_, h.2⟩
      show (1 ≤ (if v ≤ r.2.2.2.2.2.2 then r.2.2.2.2.2.2 else v) ∧ (if v ≤ r.2.2.2.2.2.2 then r.2.2.2.2.2.2 else v) ≤ 4096) ∧ (if z ≤ r.2.2.2.2.2.1 then r.2.2.2.2.2.1 else z) ≤ 16384
      have h1 : (1 ≤ r.2.2.2.2.2.2 ∧ r.2.2.2.2.2.2 ≤ 4096) ∧ r.2.2.2.2.2.1 ≤ 16384 := h1
      split <;> split <;> omega
    · rw [if_neg c2]; exact h
theorem yOK_c {b : Nat → Nat} {k : Nat} (h : yOK b k = true) (hb : yB b k ≠ 0) (hw : yW b k = 65522) : (1 ≤ yV b k ∧ yV b k ≤ 4096) ∧ yZ b k ≤ 16384 := by
  unfold yOK at h
  have h1 := ((of_decide_eq_true h).2.2.2 hb).2.2 hw
  have h2 := h1.1
  unfold isP at h2
  have h2 := of_decide_eq_true h2
  exact ⟨⟨h2.1, h2.2.1⟩, h1.2⟩
theorem cmP_tk (dr : Nat → Bool) (t : Nat) (b : Nat → Nat) (k : Nat) (s : px_TS) (hy : yOK b k = true) (h : AL cmP s.2.1) : AL cmP (tk1 dr t b k s).2.1 := by
  unfold tk1
  by_cases c1 : yB b k = 0
  · rw [if_pos c1]; exact h
  · rw [if_neg c1]
    have he := AL_ent (w := yT b k) h cmP_nr
    have hc : AL cmP (comS dr t b k (s.2.1, s.2.2.1)).2.1 := by
      have hcm : ∀ x, cmP x → cmP (x.1, cmS (sOf dr t b k) t k (yZ b k) (yV b k) x.2) := fun x hx => cmP_cm hx (fun q => yOK_c hy c1 (sOf_2 q))
      unfold comS
      dsimp only
      generalize cmS (sOf dr t b k) t k (yZ b k) (yV b k) = g at *
      generalize sOf dr t b k = s0 at *
      generalize decide (yB b k = 1) = d at *
      generalize plc (yT b k) (s.2.1.map Prod.fst) = i at *
      generalize entL (yT b k) s.2.1 = ys at *
      by_cases d1 : s0 = 0
      · rw [if_pos d1]
        exact AL_setR (f := fun r => (r.1, (r.2.1 || d), r.2.2)) he (fun x hx => he i x hx)
      · rw [if_neg d1]
        by_cases d2 : s0 = 3 ∧ (ys.getD i ([], nr0)).2.1 = 3
        · rw [if_pos d2]; exact he
        · rw [if_neg d2]
          exact AL_setR he (fun x hx => hcm x (he i x hx))
    generalize comS dr t b k (s.2.1, s.2.2.1) = Q at *
    split
    · exact he
    · split
      · exact hc
      · exact hc
/-- what is defined has a strength of an input's -/
def odS (s : px_TS) : Prop := ∀ d, d ∈ s.2.2.1 → stN s.2.1 d = 1 ∨ stN s.2.1 d = 2 ∨ stN s.2.1 d = 3
theorem sOf_3 {dr : Nat → Bool} {t : Nat} {b : Nat → Nat} {k : Nat} : sOf dr t b k ≤ 3 := by
  unfold sOf
  repeat (first | omega | split)
theorem cmS_1 {s t k z v : Nat} {r : px_NR} (h : r.1 = 1 ∨ r.1 = 2 ∨ r.1 = 3) (hs : s ≤ 3) : (cmS s t k z v r).1 = 1 ∨ (cmS s t k z v r).1 = 2 ∨ (cmS s t k z v r).1 = 3 := by
  unfold cmS
  by_cases c1 : r.1 < s
  · rw [if_pos c1]; show s = 1 ∨ s = 2 ∨ s = 3; omega
  · rw [if_neg c1]
    by_cases c2 : s = 2 ∧ r.1 = 2
    · rw [if_pos c2]; exact h
    · rw [if_neg c2]; exact h
theorem cmS_0 {s t k z v : Nat} {r : px_NR} (h : r.1 = 0) (hs : s ≤ 3) (h0 : s ≠ 0) : (cmS s t k z v r).1 = 1 ∨ (cmS s t k z v r).1 = 2 ∨ (cmS s t k z v r).1 = 3 := by
  unfold cmS
  rw [if_pos (by omega)]
  show s = 1 ∨ s = 2 ∨ s = 3
  omega
theorem odS_tk (dr : Nat → Bool) (t : Nat) (b : Nat → Nat) (k : Nat) (s : px_TS) (hy : yOK b k = true) (h : odS s) : odS (tk1 dr t b k s) := by
  unfold tk1
  by_cases c1 : yB b k = 0
  · rw [if_pos c1]; exact h
  · rw [if_neg c1]
    have he : ∀ d, d ∈ s.2.2.1 → stN (entL (yT b k) s.2.1) d = 1 ∨ stN (entL (yT b k) s.2.1) d = 2 ∨ stN (entL (yT b k) s.2.1) d = 3 := fun d hd => by rw [stN_ent]; exact h d hd
    have hc : ∀ d, d ∈ (comS dr t b k (s.2.1, s.2.2.1)).2.2 → stN (comS dr t b k (s.2.1, s.2.2.1)).2.1 d = 1 ∨ stN (comS dr t b k (s.2.1, s.2.2.1)).2.1 d = 2 ∨ stN (comS dr t b k (s.2.1, s.2.2.1)).2.1 d = 3 := by
      have hs3 := sOf_3 (dr := dr) (t := t) (b := b) (k := k)
      obtain ⟨r, p1, p2⟩ := plc_at (w := yT b k) (xs := s.2.1)
      have hcm : ∀ r : px_NR, (r.1 = 1 ∨ r.1 = 2 ∨ r.1 = 3) → (cmS (sOf dr t b k) t k (yZ b k) (yV b k) r).1 = 1 ∨ (cmS (sOf dr t b k) t k (yZ b k) (yV b k) r).1 = 2 ∨ (cmS (sOf dr t b k) t k (yZ b k) (yV b k) r).1 = 3 := fun r hr => cmS_1 hr hs3
      have hcm0 : sOf dr t b k ≠ 0 → ∀ r : px_NR, r.1 = 0 → (cmS (sOf dr t b k) t k (yZ b k) (yV b k) r).1 = 1 ∨ (cmS (sOf dr t b k) t k (yZ b k) (yV b k) r).1 = 2 ∨ (cmS (sOf dr t b k) t k (yZ b k) (yV b k) r).1 = 3 := fun h0 r hr => cmS_0 hr hs3 h0
      unfold comS
      dsimp only
      generalize cmS (sOf dr t b k) t k (yZ b k) (yV b k) = g at *
      generalize sOf dr t b k = s0 at *
      generalize decide (yB b k = 1) = d0 at *
      generalize plc (yT b k) (s.2.1.map Prod.fst) = i at *
      generalize entL (yT b k) s.2.1 = ys at *
      have hst : (ys.getD i ([], nr0)).2.1 = r.1 := by rw [getD_at p1]
      have hsi : stN ys i = r.1 := stN_at p1
      by_cases d1 : s0 = 0
      · rw [if_pos d1]
        intro d hd
        show stN (setR ys i (fun r => (r.1, (r.2.1 || d0), r.2.2))) d = 1 ∨ _
        rw [stN_setR p1]
        by_cases e : d = i
        · rw [if_pos e]
          have := he d hd
          rw [e, hsi] at this
          exact this
        · rw [if_neg e]; exact he d hd
      · rw [if_neg d1]
        by_cases d2 : s0 = 3 ∧ (ys.getD i ([], nr0)).2.1 = 3
        · rw [if_pos d2]; exact he
        · rw [if_neg d2]
          intro d hd
          show stN (setR ys i g) d = 1 ∨ stN (setR ys i g) d = 2 ∨ stN (setR ys i g) d = 3
          rw [stN_setR p1]
          have hd : d ∈ (if (ys.getD i ([], nr0)).2.1 = 0 then s.2.2.1 ++ [i] else s.2.2.1) := hd
          rw [hst] at hd
          by_cases e : d = i
          · rw [if_pos e]
            by_cases z : r.1 = 0
            · exact hcm0 d1 r z
            · rw [if_neg z] at hd
              have := he d hd
              rw [e, hsi] at this
              exact hcm r this
          · rw [if_neg e]
            split at hd
            · rcases List.mem_append.mp hd with q | q
              · exact he d q
              · exact absurd (List.mem_singleton.mp q) e
            · exact he d hd
    generalize comS dr t b k (s.2.1, s.2.2.1) = Q at *
    split
    · exact he
    · split
      · exact hc
      · exact hc
theorem txs_tk (w : List Nat) (dr : Nat → Bool) (t : Nat) (b : Nat → Nat) (k : Nat) (s : px_TS) (_ : yOK b k = true) (h : w ∈ txs s) : w ∈ txs (tk1 dr t b k s) := by
  rw [tk1_fst]
  split
  · exact h
  · exact ent_mem.mpr (Or.inr h)
