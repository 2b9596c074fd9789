/-! which names are missed -/
def Fl (w : List Nat) (xs : px_NL) : Prop := ∃ (i : Nat) (x : List Nat × px_NR), xs[i]? = some x ∧ x.1 = w ∧ x.2.2.1 = true
section CFG
variable {w v : List Nat} {xs : px_NL} {dr : Nat → Bool} {t : Nat} {b : Nat → Nat} {fs : px_FS}
theorem Fl_ent (h : Fl w xs) : Fl w (entL v xs) := by
  obtain ⟨i, x, h1, h2, h3⟩ := h
  refine ⟨i, x, ?_, h2, h3⟩
  unfold entL
  split
  · exact h1
  · rw [List.getElem?_append_left (List.getElem?_eq_some_iff.mp h1).1]; exact h1
theorem Fl_set {j : Nat} {f : px_NR → px_NR} (h : Fl w xs) (hf : ∀ r, r.2.1 = true → (f r).2.1 = true) : Fl w (setR xs j f) := by
  obtain ⟨i, x, h1, h2, h3⟩ := h
  unfold setR
  cases e : xs[j]? with
  | none => exact ⟨i, x, h1, h2, h3⟩
  | some y =>
    by_cases c : j = i
    · rw [c, h1] at e
      have e : x = y := Option.some.inj e
      refine ⟨i, (y.1, f y.2), ?_, by rw [← e]; exact h2, hf _ (by rw [← e]; exact h3)⟩
      show (xs.set j (y.1, f y.2))[i]? = _
      rw [c, List.getElem?_set_self (List.getElem?_eq_some_iff.mp h1).1]
    · refine ⟨i, x, ?_, h2, h3⟩
      show (xs.set j (y.1, f y.2))[i]? = _
      rw [List.getElem?_set_ne c]
      exact h1
theorem cmS_2 {s t k z v : Nat} {r : px_NR} : (cmS s t k z v r).2.1 = r.2.1 := by
  unfold cmS dfR cmR
  repeat (first | rfl | split)
/-- comG keeps flags -/
theorem Fl_com {S : Nat} {Y : List Nat} {f g : px_NR → px_NR} {od : List Nat} (h : Fl w xs) (hf : ∀ r, r.2.1 = true → (f r).2.1 = true) (hg : ∀ r, r.2.1 = true → (g r).2.1 = true) : Fl w (comG S Y f g (xs, od)).2.1 := by
  unfold comG
  by_cases c : S = 0
  · rw [if_pos c]; exact Fl_set (Fl_ent h) hf
  · rw [if_neg c]
    split
    · exact Fl_ent h
    · exact Fl_set (Fl_ent h) hg
theorem Fl_tkG {B S : Nat} {Y : List Nat} {f g : px_NR → px_NR} {s : px_TS} (h : Fl w s.2.1) (hf : ∀ r, r.2.1 = true → (f r).2.1 = true) (hg : ∀ r, r.2.1 = true → (g r).2.1 = true) : Fl w (tkG B S Y f g s).2.1 := by
  unfold tkG
  by_cases c0 : B = 0
  · rw [if_pos c0]; exact h
  · rw [if_neg c0]
    by_cases c1 : s.1 = 1
    · rw [if_pos c1]; exact Fl_ent h
    · rw [if_neg c1]
      split
      · exact Fl_com h hf hg
      · exact Fl_com h hf hg
theorem Fl_tk {k : Nat} {s : px_TS} (h : Fl w s.2.1) : Fl w (tk1 dr t b k s).2.1 := by
  rw [tk1_G]
  exact Fl_tkG h (fun r hr => by show (r.2.1 || _) = true; rw [hr]; rfl) (fun r hr => by rw [cmS_2]; exact hr)
theorem Fl_tks : ∀ (d k : Nat) (s : px_TS), Fl w s.2.1 → Fl w (itr (tk1 dr t b) k d s).2.1 := by
  intro d
  induction d with
  | zero => intro k s h; exact h
  | succ d ih => intro k s h; rw [itr_s]; exact ih _ _ (Fl_tk h)
theorem Fl_newG {B S : Nat} {Y : List Nat} {f g : px_NR → px_NR} {s : px_TS} (hB : B ≠ 0) (hS : S = 0) (h1 : s.1 ≠ 1) (hf : ∀ r, (f r).2.1 = true) : Fl Y (tkG B S Y f g s).2.1 := by
  unfold tkG comG
  rw [if_neg hB, if_neg h1, if_pos hS, if_pos rfl]
  obtain ⟨r, p1, p2⟩ := plc_at (w := Y) (xs := s.2.1)
  refine ⟨plc Y (s.2.1.map Prod.fst), (Y, f r), ?_, rfl, hf r⟩
  show (setR (entL Y s.2.1) (plc Y (s.2.1.map Prod.fst)) f)[plc Y (s.2.1.map Prod.fst)]? = _
  rw [setR_at p1, List.getElem?_set_self p2]
theorem tk1_1 {k : Nat} {s : px_TS} (h : s.1 = 1) : (tk1 dr t b k s).1 = 1 := by
  unfold tk1
  split
  · exact h
  · rfl
theorem tks_1 : ∀ (d k : Nat) (s : px_TS), s.1 = 1 → (itr (tk1 dr t b) k d s).1 = 1 := by
  intro d
  induction d with
  | zero => intro k s h; exact h
  | succ d ih => intro k s h; rw [itr_s]; exact ih _ _ (tk1_1 h)
/-- every symbol that is missed leaves its mark -/
theorem Fl_all : ∀ (d k : Nat) (s : px_TS), (itr (tk1 dr t b) k d s).1 ≠ 1 → ∀ j, k ≤ j → j < k + d → yB b j = 1 → wNo dr t b j = 0 → Fl (yT b j) (itr (tk1 dr t b) k d s).2.1 := by
  intro d
  induction d with
  | zero => intro k s _ j h1 h2; omega
  | succ d ih =>
    intro k s h j h1 h2 hB hw
    rw [itr_s] at h ⊢
    by_cases c : j = k
    · refine Fl_tks d (k + 1) _ ?_
      rw [c] at hB hw ⊢
      have hs1 : s.1 ≠ 1 := fun q => h (tks_1 d (k + 1) _ (tk1_1 q))
      rw [tk1_G]
      exact Fl_newG (by rw [hB]; decide) (by unfold sOf; rw [if_pos hw]) hs1 (fun r => by show (r.2.1 || decide (yB b k = 1)) = true; rw [decide_eq_true hB, Bool.or_true])
    · exact ih (k + 1) _ h j (by omega) (by omega) hB hw
/-- a mark has a reason -/
def FbP (Q : List Nat → Prop) (x : List Nat × px_NR) : Prop := x.2.2.1 = true → Q x.1
theorem Fb_tk {Q : List Nat → Prop} {k : Nat} {s : px_TS} (hQ : yB b k = 1 → wNo dr t b k = 0 → Q (yT b k)) (h : AL (FbP Q) s.2.1) : AL (FbP Q) (tk1 dr t b k s).2.1 := by
  have hE : AL (FbP Q) (entL (yT b k) s.2.1) := AL_ent h (fun q => nomatch q)
  obtain ⟨r, p1, p2⟩ := plc_at (w := yT b k) (xs := s.2.1)
  have h1 : sOf dr t b k = 0 → AL (FbP Q) (setR (entL (yT b k) s.2.1) (plc (yT b k) (s.2.1.map Prod.fst)) (fun r => (r.1, (r.2.1 || decide (yB b k = 1)), r.2.2))) := fun hS => AL_setR hE (fun x hx q => by
    have q : (x.2.2.1 || decide (yB b k = 1)) = true := q
    rw [p1] at hx
    have hx : (yT b k, r) = x := Option.some.inj hx
    rcases (Bool.or_eq_true _ _).mp q with q | q
    · exact hE _ x (by rw [← hx]; exact p1) q
    · have hw : wNo dr t b k = 0 := by
        by_cases c : wNo dr t b k = 0
        · exact c
        · rw [sOf_w c] at hS
          split at hS
          · cases hS
          · split at hS <;> cases hS
      show Q x.1
      rw [← hx]
      exact hQ (of_decide_eq_true q) hw)
  have h2 : AL (FbP Q) (setR (entL (yT b k) s.2.1) (plc (yT b k) (s.2.1.map Prod.fst)) (cmS (sOf dr t b k) t k (yZ b k) (yV b k))) := AL_setR hE (fun x hx q => by
    have q : (cmS (sOf dr t b k) t k (yZ b k) (yV b k) x.2).2.1 = true := q
    rw [cmS_2] at q
    exact hE _ x hx q)
  rw [tk1_G]
  generalize sOf dr t b k = S at *
  generalize hY : yT b k = Y at *
  generalize hg : cmS S t k (yZ b k) (yV b k) = g at *
  generalize hf : (fun r : px_NR => (r.1, (r.2.1 || decide (yB b k = 1)), r.2.2)) = f0 at *
  generalize yB b k = B at *
  unfold tkG
  by_cases c0 : B = 0
  · rw [if_pos c0]; exact h
  · rw [if_neg c0]
    by_cases c1 : s.1 = 1
    · rw [if_pos c1]; exact hE
    · rw [if_neg c1]
      have hc : AL (FbP Q) (comG S Y f0 g (s.2.1, s.2.2.1)).2.1 := by
        unfold comG
        by_cases d1 : S = 0
        · rw [if_pos d1]; exact h1 d1
        · rw [if_neg d1]
          split
          · exact hE
          · exact h2
      split
      · exact hc
      · exact hc
/-- the reasons for a mark -/
def Rsn (fs : px_FS) (ws : List (List Nat)) (s : px_TK) (w : List Nat) : Prop := w ∈ ws ∨ ∃ t k, t < s.2.2.1.length ∧ (1 ≤ k ∧ k < oM (tB fs s.2.2.1 t)) ∧ yB (tB fs s.2.2.1 t) k = 1 ∧ wNo s.2.1.1 t (tB fs s.2.2.1 t) k = 0 ∧ yT (tB fs s.2.2.1 t) k = w
def FgI (fs : px_FS) (ws : List (List Nat)) (s : px_TK) : Prop := (∀ w, w ∈ ws → Fl w s.1.2.1) ∧ (s.1.1 ≠ 1 → ∀ t k, t < s.2.2.1.length → 1 ≤ k → k < oM (tB fs s.2.2.1 t) → yB (tB fs s.2.2.1 t) k = 1 → wNo s.2.1.1 t (tB fs s.2.2.1 t) k = 0 → Fl (yT (tB fs s.2.2.1 t) k) s.1.2.1) ∧ AL (FbP (Rsn fs ws s)) s.1.2.1
theorem FgI_tk {ws : List (List Nat)} {s : px_TK} {q o n : Nat} {b : Nat → Nat} (h : FgI fs ws s) (hq : obAt fs q = some (o, n, b, false)) (he : eObj b n = 0) : FgI fs ws (tkM b q s) := by
  obtain ⟨h1, h2, h3⟩ := h
  obtain ⟨w, hy, hg⟩ := eObj_0 he
  have hS := w.1.2.1
  have hdr : ∀ t k, t < s.2.2.1.length → wNo (itr (dg1 s.2.2.1.length b) 1 (oS b - 1) s.2.1).1 t (tB fs s.2.2.1 t) k = wNo s.2.1.1 t (tB fs s.2.2.1 t) k := fun t k ht => wNo_dr (fun x hx => dgs_out hg (by omega) (Or.inl (by omega)) s.2.1)
  have hl : (tkM b q s).2.2.1 = s.2.2.1 ++ [q] := rfl
  have hl2 : (s.2.2.1 ++ [q]).length = s.2.2.1.length + 1 := by rw [List.length_append]; rfl
  have e2 := tB_2 (tq := s.2.2.1) hq
  have e1 : ∀ t, t < s.2.2.1.length → tB fs (s.2.2.1 ++ [q]) t = tB fs s.2.2.1 t := fun t ht => tB_1 ht
  have hd : (tkM b q s).2.1.1 = (itr (dg1 s.2.2.1.length b) 1 (oS b - 1) s.2.1).1 := rfl
  have hx1 : (tkM b q s).1 = itr (tk1 (itr (dg1 s.2.2.1.length b) 1 (oS b - 1) s.2.1).1 s.2.2.1.length b) 1 (oM b - 1) s.1 := rfl
  refine ⟨fun v hv => ?_, fun h0 t k ht k1 k2 k3 k4 => ?_, ?_⟩
  · rw [hx1]; exact Fl_tks _ _ _ (h1 v hv)
  · rw [hl] at ht k2 k3 k4 ⊢
    rw [hd] at k4
    rw [hl2] at ht
    rw [hx1] at h0 ⊢
    by_cases c : t < s.2.2.1.length
    · rw [e1 t c] at k2 k3 k4 ⊢
      rw [hdr t k c] at k4
      exact Fl_tks _ _ _ (h2 (fun z => h0 (tks_1 _ _ _ z)) t k c k1 k2 k3 k4)
    · have e : t = s.2.2.1.length := by omega
      rw [e, e2] at k2 k3 k4 ⊢
      exact Fl_all _ _ _ h0 k k1 (by omega) k3 k4
  · have hm : AL (FbP (Rsn fs ws (tkM b q s))) s.1.2.1 := AL_mono h3 (fun x hx z => by
      rcases hx z with r | ⟨t, k, r1, r2, r3, r4, r5⟩
      · exact Or.inl r
      · refine Or.inr ⟨t, k, by rw [hl, hl2]; omega, ?_⟩
        rw [hl, hd, e1 t r1, hdr t k r1]
        exact ⟨r2, r3, r4, r5⟩)
    rw [hx1]
    by_cases c0 : oM b = 0
    · rw [c0]; exact hm
    · refine itr_inv (g := tk1 _ s.2.2.1.length b) (P := fun s' : px_TS => AL (FbP (Rsn fs ws (tkM b q s))) s'.2.1) (a := 1) (e := oM b) (fun k s' k1 k2 hs' => Fb_tk (fun z1 z2 => ?_) hs') (oM b - 1) 1 s.1 (Nat.le_refl _) (by omega) hm
      refine Or.inr ⟨s.2.2.1.length, k, by rw [hl, hl2]; omega, ?_⟩
      rw [hl, hd, e2]
      exact ⟨⟨k1, k2⟩, z1, z2, rfl⟩
/-- a property of all that is taken -/
theorem TKK_inv {P : px_TK → Prop} (hca : ∀ s ca, P s → P (s.1, s.2.1, s.2.2.1, ca)) (hP : ∀ s q o n b, P s → obAt fs q = some (o, n, b, false) → eObj b n = 0 → P (tkM b q s)) (hf : FSo fs) {xs : px_NL} {od : List Nat} (h0 : P ((0, xs, od, none), (fun _ => false, 0, []), [], fun _ => none)) : P (taL fs xs od) := by
  have ht1 : ∀ f k (p : px_TK × Bool), P p.1 → P (tf1 fs f k p).1 := fun f k p h => by
    rcases tf1_cs2 (fs := fs) (f := f) (k := k) (p := p) with e | ⟨o, n, b, ca, h1, h2, e⟩
    · rw [e]; exact h
    · rw [e]
      exact hP _ _ o n _ (hca _ ca h) h1 (hf _ _ _ _ h1).2
  have htL : ∀ f c s, P s → P (tfL fs f c s) := fun f c s h => by
    unfold tfL
    refine whl_inv (st := tfS) (g := rdF fs f) (P := P) (fun s hs => ?_) c s h
    unfold rdF
    exact itr_inv (g := tf1 fs f) (P := fun p : px_TK × Bool => P p.1) (a := 0) (e := 8) (fun k p _ _ hp => ht1 f k p hp) 8 0 (s, false) (Nat.le_refl _) (Nat.le_refl _) hs
  have hta : ∀ f s, P s → P (ta1 fs f s) := fun f s h => by
    unfold ta1
    split
    · exact h
    · split
      · exact h
      · rename_i x hx
        split
        · exact htL f 9 s h
        · rename_i ea
          have hob := obAt_8 hx (Bool.eq_false_iff.mpr ea)
          exact hP _ _ _ _ _ h hob (hf _ _ _ _ hob).2
  unfold taL
  exact itr_inv (g := ta1 fs) (P := P) (a := 0) (e := 8) (fun f s _ _ h => hta f s h) 8 0 _ (Nat.le_refl _) (Nat.le_refl _) h0
end CFG
