/-! names left without a definition: as the class asks, and as the document does -/
section CFH
variable {w : List Nat} {xs : px_NL} {fs : px_FS} {ws : List (List Nat)} {s : px_TK} {gs : List (List Nat × Int64)}
theorem tlG_Fb {Q : List Nat → Prop} : ∀ (l : List (List Nat × Int64)) (p : px_NL × List Nat), AL (FbP Q) p.1 → AL (FbP Q) (tlG l p).1
  | [], p, h => h
  | g :: l, p, h => by
    unfold tlG
    refine tlG_Fb l _ ?_
    have hE : AL (FbP Q) (entL g.1 p.1) := AL_ent h (fun q => nomatch q)
    exact AL_setR hE (fun x hx q => hE _ x hx q)
theorem tlW_Fb {Q : List Nat → Prop} : ∀ (l : List (List Nat)) (xs : px_NL), (∀ w, w ∈ l → Q w) → AL (FbP Q) xs → AL (FbP Q) (tlW l xs)
  | [], xs, _, h => h
  | v :: l, xs, hQ, h => by
    unfold tlW
    refine tlW_Fb l _ (fun w hw => hQ w (List.mem_cons_of_mem _ hw)) ?_
    have hE : AL (FbP Q) (entL v xs) := AL_ent h (fun q => nomatch q)
    obtain ⟨r, p1, p2⟩ := plc_at (w := v) (xs := xs)
    refine AL_setR hE (fun x hx q => ?_)
    rw [p1] at hx
    have hx : (v, r) = x := Option.some.inj hx
    show Q x.1
    rw [← hx]
    exact hQ v (List.mem_cons_self ..)
theorem tlW_Fl : ∀ (l : List (List Nat)) (xs : px_NL), (∀ w, Fl w xs → Fl w (tlW l xs)) ∧ ∀ w, w ∈ l → Fl w (tlW l xs)
  | [], xs => ⟨fun w h => h, fun w h => nomatch h⟩
  | v :: l, xs => by
    unfold tlW
    obtain ⟨i1, i2⟩ := tlW_Fl l (setR (entL v xs) (plc v (xs.map Prod.fst)) wsR)
    obtain ⟨r, p1, p2⟩ := plc_at (w := v) (xs := xs)
    refine ⟨fun w h => i1 w (Fl_set (Fl_ent h) (fun _ _ => rfl)), fun w h => ?_⟩
    rcases List.mem_cons.mp h with e | e
    · rw [e]
      refine i1 v ⟨plc v (xs.map Prod.fst), (v, wsR r), ?_, rfl, rfl⟩
      rw [setR_at p1, List.getElem?_set_self p2]
    · exact i2 w e
theorem FgI_0 : FgI fs ws ((0, xs0 gs ws, od0 gs, none), (fun _ => false, 0, []), [], fun _ => none) := by
  refine ⟨fun w hw => (tlW_Fl ws _).2 w hw, fun _ t k ht => absurd ht (Nat.not_lt_zero t), ?_⟩
  show AL (FbP _) (xs0 gs ws)
  exact tlW_Fb ws _ (fun w hw => Or.inl hw) (tlG_Fb gs ([], []) (fun i x hx => by rw [List.getElem?_nil] at hx; cases hx))
theorem FgI_taL (hf : FSo fs) : FgI fs ws (taL fs (xs0 gs ws) (od0 gs)) := TKK_inv (P := FgI fs ws) (fun s ca h => h) (fun s q o n b h h1 h2 => FgI_tk h h1 h2) hf FgI_0
def flN (xs : px_NL) (i : Nat) : Bool := (xs.getD i ([], nr0)).2.2.1
theorem flN_at {i : Nat} {x : List Nat × px_NR} (h : xs[i]? = some x) : flN xs i = x.2.2.1 := by
  unfold flN
  rw [List.getD_eq_getElem?_getD, h]
  rfl
theorem flN_set {i j : Nat} {f : px_NR → px_NR} (hf : ∀ r, (f r).2.1 = r.2.1) : flN (setR xs i f) j = flN xs j := by
  unfold setR
  cases e : xs[i]? with
  | none => rfl
  | some x =>
    show flN (xs.set i (x.1, f x.2)) j = _
    by_cases c : i = j
    · rw [flN_at (x := (x.1, f x.2)) (by rw [← c, List.getElem?_set_self (List.getElem?_eq_some_iff.mp e).1]), flN_at (x := x) (by rw [← c]; exact e)]
      exact hf x.2
    · unfold flN
      rw [List.getD_eq_getElem?_getD, List.getD_eq_getElem?_getD, List.getElem?_set_ne c]
theorem flN_own1 {k j : Nat} : flN (own1 k w xs) j = flN xs j := by
  unfold own1
  split
  · rfl
  · split
    · exact flN_set (fun r => rfl)
    · rfl
theorem flN_own {j : Nat} : flN (ownL xs) j = flN xs j := by
  unfold ownL
  rw [flN_own1, flN_own1, flN_own1, flN_own1]
theorem Fl_flN (hnd : (xs.map Prod.fst).Nodup) (h : Fl w xs) : flN xs (plc w (xs.map Prod.fst)) = true := by
  obtain ⟨i, x, h1, h2, h3⟩ := h
  have e : idx w 0 (xs.map Prod.fst) = some i := idx_nd hnd (by rw [List.getElem?_map, h1]; exact congrArg some h2)
  unfold plc
  rw [e]
  show flN xs i = true
  rw [flN_at h1]
  exact h3
theorem flN_Fb {Q : List Nat → Prop} (h : AL (FbP Q) xs) (hw : w ∈ xs.map Prod.fst) (hf : flN xs (plc w (xs.map Prod.fst)) = true) : Q w := by
  have hp := plc_get hw
  rw [List.getElem?_map] at hp
  cases e : xs[plc w (xs.map Prod.fst)]? with
  | none => rw [e] at hp; cases hp
  | some x =>
    rw [e] at hp
    have hp : x.1 = w := Option.some.inj hp
    rw [flN_at e] at hf
    rw [← hp]
    exact h _ x e hf
/-- wanted: missed or wished, and without a definition -/
def wnN (xs : px_NL) (w : List Nat) : Bool := decide (stN xs (plc w (xs.map Prod.fst)) = 0) && flN xs (plc w (xs.map Prod.fst))
def clW (ws : List (List Nat)) (xs : px_NL) (i : Nat) : Bool := wnN xs (ws.getD i [])
def clY (xs : px_NL) (b : Nat → Nat) (j : Nat) : Bool := hsN b j && wnN xs (yT b j)
def clT (tb : Nat → Nat → Nat) (xs : px_NL) (t : Nat) : Bool := ex1 (clY xs (tb t)) 0 64
def clA (ws : List (List Nat)) (tb : Nat → Nat → Nat) (T : Nat) (xs : px_NL) : Bool := ex1 (clW ws xs) 0 ws.length || (ex1 (clT tb xs) 0 T || (dfI wST xs).isNone)
theorem clA_lk (hW : WK fs s) (hf : FgI fs ws s) (h0 : s.1.1 ≠ 1) (hM : ∀ t, t < s.2.2.1.length → oM (tB fs s.2.2.1 t) ≤ 64) : clA ws (tB fs s.2.2.1) s.2.2.1.length (ownL s.1.2.1) = lkA fs ws s (ownL s.1.2.1) := by
  have hnd : (s.1.2.1.map Prod.fst).Nodup := hW.2.2.2.1
  have hnm : (ownL s.1.2.1).map Prod.fst = s.1.2.1.map Prod.fst := ownL_fst
  obtain ⟨f1, f2, f3⟩ := hf
  have hfl : ∀ w, Fl w s.1.2.1 → flN (ownL s.1.2.1) (plc w ((ownL s.1.2.1).map Prod.fst)) = true := fun w h => by
    rw [flN_own, hnm]; exact Fl_flN hnd h
  have hws : ∀ i, i < ws.length → ws.getD i [] ∈ ws := fun i hi => by
    rw [List.getD_eq_getElem?_getD, List.getElem?_eq_getElem hi]
    exact List.getElem_mem hi
  have eW : ∀ i, i < ws.length → clW ws (ownL s.1.2.1) i = lkW ws (ownL s.1.2.1) i := fun i hi => by
    unfold clW wnN lkW
    rw [hfl _ (f1 _ (hws i hi)), Bool.and_true]
  have eT : ∀ t, t < s.2.2.1.length → lkT fs s (ownL s.1.2.1) t = ex1 (lkY s.2.1.1 (ownL s.1.2.1) t (tB fs s.2.2.1 t)) 1 (oM (tB fs s.2.2.1 t) - 1) := fun t ht => by
    obtain ⟨q, q1, q2, q3⟩ := obT_at hW.1 ht
    unfold lkT
    rw [q1]
    show (match obAt fs q with
      | none => false
      | some y => ex1 (lkY s.2.1.1 (ownL s.1.2.1) t y.2.2.1) 1 (oM y.2.2.1 - 1)) = _
    rw [q3]
  apply Bool.eq_iff_iff.mpr
  unfold clA lkA
  rw [Bool.or_eq_true, Bool.or_eq_true, Bool.or_eq_true, Bool.or_eq_true, ex1_iff, ex1_iff, ex1_iff, ex1_iff]
  have hin : ∀ t, t < s.2.2.1.length → ∀ k, 1 ≤ k → k < oM (tB fs s.2.2.1 t) → yB (tB fs s.2.2.1 t) k ≠ 0 → yT (tB fs s.2.2.1 t) k ∈ s.1.2.1.map Prod.fst := fun t ht k k1 k2 k3 => hW.2.2.1 t k ht k1 k2 k3
  constructor
  · rintro (⟨i, i1, i2, i3⟩ | ⟨t, t1, t2, t3⟩ | h)
    · exact Or.inl ⟨i, i1, i2, by rw [← eW i (by omega)]; exact i3⟩
    · obtain ⟨j, j1, j2, j3⟩ := ex1_iff.mp t3
      obtain ⟨g1, g2⟩ := (Bool.and_eq_true _ _).mp j3
      obtain ⟨g3, g4⟩ := (Bool.and_eq_true _ _).mp g2
      obtain ⟨m1, m2, m3⟩ := of_decide_eq_true g1
      rw [flN_own, hnm] at g4
      have hst := of_decide_eq_true g3
      rcases flN_Fb f3 (hin t (by omega) j m1 m2 m3) g4 with r | ⟨t', k', r1, ⟨r2, r2'⟩, r3, r4, r5⟩
      · obtain ⟨i, hi⟩ := List.getElem?_of_mem r
        refine Or.inl ⟨i, Nat.zero_le _, by have := (List.getElem?_eq_some_iff.mp hi).1; omega, decide_eq_true ?_⟩
        rw [List.getD_eq_getElem?_getD, hi]
        exact hst
      · refine Or.inr (Or.inl ⟨t', Nat.zero_le _, by omega, ?_⟩)
        rw [eT t' r1]
        refine ex1_iff.mpr ⟨k', r2, by omega, ?_⟩
        unfold lkY
        rw [decide_eq_true r3, decide_eq_true r4, r5, decide_eq_true hst]
        rfl
    · exact Or.inr (Or.inr h)
  · rintro (⟨i, i1, i2, i3⟩ | ⟨t, t1, t2, t3⟩ | h)
    · exact Or.inl ⟨i, i1, i2, by rw [eW i (by omega)]; exact i3⟩
    · rw [eT t (by omega)] at t3
      obtain ⟨j, j1, j2, j3⟩ := ex1_iff.mp t3
      obtain ⟨g1, g2⟩ := (Bool.and_eq_true _ _).mp j3
      obtain ⟨g3, g4⟩ := (Bool.and_eq_true _ _).mp g2
      have b1 := of_decide_eq_true g1
      have hMt := hM t (by omega)
      refine Or.inr (Or.inl ⟨t, t1, t2, ex1_iff.mpr ⟨j, Nat.zero_le _, by omega, ?_⟩⟩)
      unfold clY wnN
      rw [show hsN (tB fs s.2.2.1 t) j = true from decide_eq_true ⟨j1, by omega, by rw [b1]; decide⟩, g4, hfl _ (f2 h0 t j (by omega) j1 (by omega) b1 (of_decide_eq_true g3))]
      rfl
    · exact Or.inr (Or.inr h)
end CFH
