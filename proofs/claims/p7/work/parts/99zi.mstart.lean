/-! the names before any object; own names keep what is known -/
def st0 (x : List Nat × px_NR) : Prop := okR x.2 ∧ (x.2.2.2.2.1 = none ∧ (x.2.1 = 0 ∨ x.2.1 = 3)) ∧ cmP x
theorem st0_nr {w : List Nat} : st0 (w, nr0) := ⟨⟨Nat.zero_le _, by show (0:Nat) < _; omega, by show (0:Nat) < _; omega⟩, ⟨rfl, Or.inl rfl⟩, cmP_nr⟩
theorem stN_lt {xs : px_NL} {d : Nat} (h : stN xs d ≠ 0) : d < xs.length := by
  refine Decidable.byContradiction fun q => h ?_
  unfold stN
  rw [List.getD_eq_getElem?_getD, List.getElem?_eq_none (by omega)]
  rfl
theorem tlG_inv : ∀ (l : List (List Nat × Int64)) (s : px_NL × List Nat), AL st0 s.1 → (s.1.map Prod.fst).Nodup → (∀ d, d ∈ s.2 → stN s.1 d = 3) → AL st0 (tlG l s).1 ∧ ((tlG l s).1.map Prod.fst).Nodup ∧ (∀ d, d ∈ (tlG l s).2 → stN (tlG l s).1 d = 3) ∧ (tlG l s).1.length ≤ s.1.length + l.length ∧ (tlG l s).2.length = s.2.length + l.length := by
  intro l
  induction l with
  | nil => intro s h1 h2 h3; exact ⟨h1, h2, h3, Nat.le_refl _, rfl⟩
  | cons g l ih =>
    intro s h1 h2 h3
    unfold tlG
    obtain ⟨r, p1, p2⟩ := plc_at (w := g.1) (xs := s.1)
    have he := AL_ent (w := g.1) h1 st0_nr
    have a1 : AL st0 (setR (entL g.1 s.1) (plc g.1 (s.1.map Prod.fst)) (gvR g.2)) := AL_setR he (fun x hx => by
      have := he _ x hx
      exact ⟨⟨by show (3:Nat) ≤ 4; omega, this.1.2⟩, ⟨this.2.1.1, Or.inr rfl⟩, ⟨fun q => (nomatch q), this.2.2.2⟩⟩)
    have a2 : ((setR (entL g.1 s.1) (plc g.1 (s.1.map Prod.fst)) (gvR g.2)).map Prod.fst).Nodup := by
      rw [setR_fst, entL_fst]; exact ent_nd h2
    have a3 : ∀ d, d ∈ s.2 ++ [plc g.1 (s.1.map Prod.fst)] → stN (setR (entL g.1 s.1) (plc g.1 (s.1.map Prod.fst)) (gvR g.2)) d = 3 := fun d hd => by
      rw [stN_setR p1]
      by_cases c : d = plc g.1 (s.1.map Prod.fst)
      · rw [if_pos c]; rfl
      · rw [if_neg c, stN_ent]
        rcases List.mem_append.mp hd with q | q
        · exact h3 d q
        · exact absurd (List.mem_singleton.mp q) c
    obtain ⟨b1, b2, b3, b4, b5⟩ := ih (setR (entL g.1 s.1) (plc g.1 (s.1.map Prod.fst)) (gvR g.2), s.2 ++ [plc g.1 (s.1.map Prod.fst)]) a1 a2 a3
    refine ⟨b1, b2, b3, Nat.le_trans b4 ?_, b5.trans ?_⟩
    · show (setR (entL g.1 s.1) (plc g.1 (s.1.map Prod.fst)) (gvR g.2)).length + l.length ≤ s.1.length + (l.length + 1)
      rw [setR_len]
      have := entL_len (w := g.1) (xs := s.1)
      omega
    · show (s.2 ++ [plc g.1 (s.1.map Prod.fst)]).length + l.length = s.2.length + (l.length + 1)
      rw [List.length_append, List.length_singleton]; omega
theorem tlW_inv : ∀ (l : List (List Nat)) (xs : px_NL), AL st0 xs → (xs.map Prod.fst).Nodup → AL st0 (tlW l xs) ∧ ((tlW l xs).map Prod.fst).Nodup ∧ (∀ d, stN (tlW l xs) d = stN xs d) ∧ (tlW l xs).length ≤ xs.length + l.length ∧ ∀ w, (w ∈ l ∨ w ∈ xs.map Prod.fst) → w ∈ (tlW l xs).map Prod.fst := by
  intro l
  induction l with
  | nil => intro xs h1 h2; exact ⟨h1, h2, fun _ => rfl, Nat.le_refl _, fun w q => q.elim (fun q => nomatch q) id⟩
  | cons v l ih =>
    intro xs h1 h2
    unfold tlW
    obtain ⟨r, p1, p2⟩ := plc_at (w := v) (xs := xs)
    have he := AL_ent (w := v) h1 st0_nr
    have a1 : AL st0 (setR (entL v xs) (plc v (xs.map Prod.fst)) wsR) := AL_setR he (fun x hx => he _ x hx)
    have a2 : ((setR (entL v xs) (plc v (xs.map Prod.fst)) wsR).map Prod.fst).Nodup := by
      rw [setR_fst, entL_fst]; exact ent_nd h2
    obtain ⟨b1, b2, b3, b4, b5⟩ := ih (setR (entL v xs) (plc v (xs.map Prod.fst)) wsR) a1 a2
    refine ⟨b1, b2, fun d => ?_, ?_, fun w hw => b5 w ?_⟩
    · rw [b3, stN_setR p1]
      by_cases c : d = plc v (xs.map Prod.fst)
      · rw [if_pos c, c, ← stN_ent (w := v), stN_at p1]; rfl
      · rw [if_neg c, stN_ent]
    · rw [setR_len] at b4
      have := entL_len (w := v) (xs := xs)
      rw [List.length_cons]; omega
    · rw [setR_fst, entL_fst]
      rcases hw with q | q
      · rcases List.mem_cons.mp q with q | q
        · exact Or.inr (ent_mem.mpr (Or.inl q))
        · exact Or.inl q
      · exact Or.inr (ent_mem.mpr (Or.inr q))
/-- the start: names and order of definitions -/
def xs0 (gs : List (List Nat × Int64)) (ws : List (List Nat)) : px_NL := tlW ws (tlG gs ([], [])).1
def od0 (gs : List (List Nat × Int64)) : List Nat := (tlG gs ([], [])).2
def ST0 (xs : px_NL) (od : List Nat) : Prop := AL st0 xs ∧ (xs.map Prod.fst).Nodup ∧ (∀ d, d ∈ od → stN xs d = 3) ∧ xs.length ≤ 32 ∧ od.length ≤ 32
theorem ST0_xs {gs : List (List Nat × Int64)} {ws : List (List Nat)} (hg : gs.length ≤ 16) (hw : ws.length ≤ 16) : ST0 (xs0 gs ws) (od0 gs) ∧ ∀ w, w ∈ ws → w ∈ (xs0 gs ws).map Prod.fst := by
  obtain ⟨a1, a2, a3, a4, a5⟩ := tlG_inv gs ([], []) (fun i x hx => by rw [List.getElem?_nil] at hx; cases hx) List.Pairwise.nil (fun d hd => nomatch hd)
  obtain ⟨b1, b2, b3, b4, b5⟩ := tlW_inv ws (tlG gs ([], [])).1 a1 a2
  have a4 : (tlG gs ([], [])).1.length ≤ 0 + gs.length := a4
  have a5 : (tlG gs ([], [])).2.length = 0 + gs.length := a5
  refine ⟨⟨b1, b2, fun d hd => by unfold xs0; rw [b3]; exact a3 d hd, ?_, ?_⟩, fun w hw => b5 w (Or.inl hw)⟩
  · unfold xs0; omega
  · unfold od0; omega
section MST
variable {fs : px_FS} {xs : px_NL} {od : List Nat}
theorem WK_0 (hf : FSo fs) (h : ST0 xs od) : WK fs (taL fs xs od) := WK_taL hf (fun i x hx => (h.1 i x hx).1) h.2.2.2.1 h.2.2.2.2 (fun i x hx => (h.1 i x hx).2.1) h.2.1 (fun d hd => stN_lt (by rw [h.2.2.1 d hd]; decide))
theorem cmP_0 (hf : FSo fs) (h : ST0 xs od) : AL cmP (taL fs xs od).1.2.1 := TK_inv (P := fun s => AL cmP s.2.1) cmP_tk hf (fun i x hx => (h.1 i x hx).2.2)
theorem odS_0 (hf : FSo fs) (h : ST0 xs od) : odS (taL fs xs od).1 := TK_inv (P := odS) odS_tk hf (fun d hd => Or.inr (Or.inr (h.2.2.1 d hd)))
theorem txs_0 (hf : FSo fs) {w : List Nat} (h : w ∈ xs.map Prod.fst) : w ∈ (taL fs xs od).1.2.1.map Prod.fst := TK_inv (P := fun s => w ∈ txs s) (txs_tk w) hf h
end MST
/-- own1 keeps a property of every name that own names have -/
theorem own1_cs {k : Nat} {w : List Nat} {xs : px_NL} : own1 k w xs = xs ∨ ∃ i, stN xs i = 0 ∧ own1 k w xs = setR xs i (fun r => (4, r.2.1, k, r.2.2.2)) := by
  unfold own1
  split
  · exact Or.inl rfl
  · rename_i i _
    by_cases c : stN xs i = 0
    · rw [if_pos c]; exact Or.inr ⟨i, c, rfl⟩
    · rw [if_neg c]; exact Or.inl rfl
theorem AL_own1 {P : List Nat × px_NR → Prop} {k : Nat} {w : List Nat} {xs : px_NL} (hP : ∀ x : List Nat × px_NR, x.2.1 = 0 → P x → P (x.1, (4, x.2.2.1, k, x.2.2.2.2))) (h : AL P xs) : AL P (own1 k w xs) := by
  rcases own1_cs (k := k) (w := w) (xs := xs) with e | ⟨i, c, e⟩
  · rw [e]; exact h
  · rw [e]
    exact AL_setR h (fun x hx => hP x (by rw [← stN_at hx]; exact c) (h i x hx))
theorem AL_own {P : List Nat × px_NR → Prop} {xs : px_NL} (hP : ∀ k, k ≤ 4 → ∀ x : List Nat × px_NR, x.2.1 = 0 → P x → P (x.1, (4, x.2.2.1, k, x.2.2.2.2))) (h : AL P xs) : AL P (ownL xs) := by
  unfold ownL
  exact AL_own1 (hP 4 (by omega)) (AL_own1 (hP 3 (by omega)) (AL_own1 (hP 2 (by omega)) (AL_own1 (hP 1 (by omega)) h)))
theorem stN_own1 {k d : Nat} {w : List Nat} {xs : px_NL} (h : stN xs d ≠ 0) : stN (own1 k w xs) d = stN xs d := by
  rcases own1_cs (k := k) (w := w) (xs := xs) with e | ⟨i, c, e⟩
  · rw [e]
  · rw [e]
    by_cases hi : i < xs.length
    · rw [stN_setR (List.getElem?_eq_getElem hi), if_neg (fun q => h (by rw [q]; exact c))]
    · unfold setR
      rw [List.getElem?_eq_none (by omega)]
theorem stN_own {d : Nat} {xs : px_NL} (h : stN xs d ≠ 0) : stN (ownL xs) d = stN xs d := by
  have h1 := stN_own1 (k := 1) (w := wO1) h
  have h2 := stN_own1 (k := 2) (w := wO2) (xs := own1 1 wO1 xs) (by rw [h1]; exact h)
  have h3 := stN_own1 (k := 3) (w := wO3) (xs := own1 2 wO2 (own1 1 wO1 xs)) (by rw [h2, h1]; exact h)
  have h4 := stN_own1 (k := 4) (w := wO4) (xs := own1 3 wO3 (own1 2 wO2 (own1 1 wO1 xs))) (by rw [h3, h2, h1]; exact h)
  unfold ownL
  rw [h4, h3, h2, h1]
theorem byP_own {T : Nat} {tb : Nat → Nat → Nat} {dr : Nat → Bool} {k : Nat} (x : List Nat × px_NR) (h0 : x.2.1 = 0) (h : byP T tb dr x) : byP T tb dr (x.1, (4, x.2.2.1, k, x.2.2.2.2)) := by
  unfold byP at *
  show match x.2.2.2.2.1 with
    | none => (4:Nat) = 0 ∨ (4:Nat) = 3 ∨ (4:Nat) = 4
    | some q => _
  split
  · exact Or.inr (Or.inr rfl)
  · rename_i q hq
    rw [hq] at h
    exact absurd h0 h.2.2.2.2.1
theorem cmP_own (k : Nat) (hk : k ≤ 4) (x : List Nat × px_NR) (_ : x.2.1 = 0) (h : cmP x) : cmP (x.1, (4, x.2.2.1, k, x.2.2.2.2)) := ⟨fun q => (nomatch q), hk⟩
theorem cmOK_of {xs : px_NL} (h : AL cmP xs) : cmOK xs := fun n hn h2 => by
  have e := List.getElem?_eq_getElem hn
  have := (h n _ e).1 (by rw [← stN_at e]; exact h2)
  unfold cmV cmZ
  rw [getD_at e]
  exact this
