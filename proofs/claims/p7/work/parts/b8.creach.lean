/-! every definition stands in the order -/
def odT (s : px_TS) : Prop := ∀ d, (stN s.2.1 d = 1 ∨ stN s.2.1 d = 2 ∨ stN s.2.1 d = 3) → d ∈ s.2.2.1
theorem cmS_4 {s t k z v : Nat} {r : px_NR} (hs : s ≤ 3) (h : (cmS s t k z v r).1 = 1 ∨ (cmS s t k z v r).1 = 2 ∨ (cmS s t k z v r).1 = 3) : r.1 = 0 ∨ r.1 = 1 ∨ r.1 = 2 ∨ r.1 = 3 := by
  unfold cmS dfR cmR at h
  split at h
  · omega
  · split at h
    · exact Or.inr h
    · exact Or.inr h
theorem odT_tk (dr : Nat → Bool) (t : Nat) (b : Nat → Nat) (k : Nat) (s : px_TS) (_ : yOK b k = true) (h : odT s) : odT (tk1 dr t b k s) := by
  have hs3 := sOf_3 (dr := dr) (t := t) (b := b) (k := k)
  obtain ⟨r, p1, p2⟩ := plc_at (w := yT b k) (xs := s.2.1)
  have he : ∀ d, (stN (entL (yT b k) s.2.1) d = 1 ∨ stN (entL (yT b k) s.2.1) d = 2 ∨ stN (entL (yT b k) s.2.1) d = 3) → d ∈ s.2.2.1 := fun d hd => by rw [stN_ent] at hd; exact h d hd
  have hcm := cmS_4 (t := t) (k := k) (z := yZ b k) (v := yV b k) (r := r) hs3
  rw [tk1_G]
  generalize sOf dr t b k = S at *
  generalize hY : yT b k = Y at *
  generalize cmS S t k (yZ b k) (yV b k) = g at *
  generalize hf : (fun r : px_NR => (r.1, (r.2.1 || decide (yB b k = 1)), r.2.2)) = f0 at *
  have hf1 : ∀ r, (f0 r).1 = r.1 := fun r => by rw [← hf]
  generalize yB b k = B at *
  unfold tkG
  by_cases c0 : B = 0
  · rw [if_pos c0]; exact h
  · rw [if_neg c0]
    by_cases c1 : s.1 = 1
    · rw [if_pos c1]; exact he
    · rw [if_neg c1]
      have hsi : stN (entL Y s.2.1) (plc Y (s.2.1.map Prod.fst)) = r.1 := stN_at p1
      have hst : ((entL Y s.2.1).getD (plc Y (s.2.1.map Prod.fst)) ([], nr0)).2.1 = r.1 := by rw [List.getD_eq_getElem?_getD, p1]; rfl
      have hc : ∀ d, (stN (comG S Y f0 g (s.2.1, s.2.2.1)).2.1 d = 1 ∨ stN (comG S Y f0 g (s.2.1, s.2.2.1)).2.1 d = 2 ∨ stN (comG S Y f0 g (s.2.1, s.2.2.1)).2.1 d = 3) → d ∈ (comG S Y f0 g (s.2.1, s.2.2.1)).2.2 := by
        unfold comG
        by_cases d1 : S = 0
        · rw [if_pos d1]
          intro d hd
          have hd : stN (setR (entL Y s.2.1) (plc Y (s.2.1.map Prod.fst)) f0) d = 1 ∨ stN (setR (entL Y s.2.1) (plc Y (s.2.1.map Prod.fst)) f0) d = 2 ∨ stN (setR (entL Y s.2.1) (plc Y (s.2.1.map Prod.fst)) f0) d = 3 := hd
          show d ∈ s.2.2.1
          rw [stN_setR p1, hf1] at hd
          refine he d ?_
          by_cases e : d = plc Y (s.2.1.map Prod.fst)
          · rw [if_pos e] at hd; rw [e, hsi]; exact hd
          · rw [if_neg e] at hd; exact hd
        · rw [if_neg d1]
          split
          · exact he
          · intro d hd
            have hd : stN (setR (entL Y s.2.1) (plc Y (s.2.1.map Prod.fst)) g) d = 1 ∨ stN (setR (entL Y s.2.1) (plc Y (s.2.1.map Prod.fst)) g) d = 2 ∨ stN (setR (entL Y s.2.1) (plc Y (s.2.1.map Prod.fst)) g) d = 3 := hd
            show d ∈ (if ((entL Y s.2.1).getD (plc Y (s.2.1.map Prod.fst)) ([], nr0)).2.1 = 0 then s.2.2.1 ++ [plc Y (s.2.1.map Prod.fst)] else s.2.2.1)
            rw [stN_setR p1] at hd
            rw [hst]
            by_cases e : d = plc Y (s.2.1.map Prod.fst)
            · rw [if_pos e] at hd
              by_cases z : r.1 = 0
              · rw [if_pos z, e]; exact List.mem_append.mpr (Or.inr (List.mem_singleton.mpr rfl))
              · rw [if_neg z]
                refine he d ?_
                rw [e, hsi]
                exact (hcm hd).resolve_left z
            · rw [if_neg e] at hd
              have := he d hd
              split
              · exact List.mem_append.mpr (Or.inl this)
              · exact this
      split
      · exact hc
      · exact hc
theorem tlG_od : ∀ (l : List (List Nat × Int64)) (p : px_NL × List Nat), (∀ d, (stN p.1 d = 1 ∨ stN p.1 d = 2 ∨ stN p.1 d = 3) → d ∈ p.2) → ∀ d, (stN (tlG l p).1 d = 1 ∨ stN (tlG l p).1 d = 2 ∨ stN (tlG l p).1 d = 3) → d ∈ (tlG l p).2
  | [], p, h => h
  | g :: l, p, h => by
    unfold tlG
    refine tlG_od l _ (fun d hd => ?_)
    obtain ⟨r, p1, p2⟩ := plc_at (w := g.1) (xs := p.1)
    show d ∈ p.2 ++ [plc g.1 (p.1.map Prod.fst)]
    have hd : stN (setR (entL g.1 p.1) (plc g.1 (p.1.map Prod.fst)) (gvR g.2)) d = 1 ∨ stN (setR (entL g.1 p.1) (plc g.1 (p.1.map Prod.fst)) (gvR g.2)) d = 2 ∨ stN (setR (entL g.1 p.1) (plc g.1 (p.1.map Prod.fst)) (gvR g.2)) d = 3 := hd
    rw [stN_setR p1] at hd
    by_cases e : d = plc g.1 (p.1.map Prod.fst)
    · exact List.mem_append.mpr (Or.inr (List.mem_singleton.mpr e))
    · rw [if_neg e, stN_ent] at hd
      exact List.mem_append.mpr (Or.inl (h d hd))
theorem tlW_st : ∀ (l : List (List Nat)) (xs : px_NL) (d : Nat), stN (tlW l xs) d = stN xs d
  | [], xs, d => rfl
  | w :: l, xs, d => by
    unfold tlW
    rw [tlW_st l]
    obtain ⟨r, p1, p2⟩ := plc_at (w := w) (xs := xs)
    rw [stN_setR p1]
    by_cases e : d = plc w (xs.map Prod.fst)
    · rw [if_pos e, e, ← stN_ent (w := w), stN_at p1]; rfl
    · rw [if_neg e, stN_ent]
theorem odT_0 {fs : px_FS} {gs : List (List Nat × Int64)} {ws : List (List Nat)} (hf : FSo fs) : odT (taL fs (xs0 gs ws) (od0 gs)).1 := by
  refine TK_inv (P := odT) odT_tk hf (fun d hd => ?_)
  have hd : stN (xs0 gs ws) d = 1 ∨ stN (xs0 gs ws) d = 2 ∨ stN (xs0 gs ws) d = 3 := hd
  unfold xs0 at hd
  rw [tlW_st] at hd
  exact tlG_od gs ([], []) (fun d hd => by
    have h0 : stN ([] : px_NL) d = 0 := by unfold stN; rw [List.getD_eq_getElem?_getD, List.getElem?_nil]; rfl
    rw [h0] at hd
    omega) d hd
theorem own1_st {k d : Nat} {w : List Nat} {xs : px_NL} (h : stN (own1 k w xs) d = 1 ∨ stN (own1 k w xs) d = 2 ∨ stN (own1 k w xs) d = 3) : stN xs d = 1 ∨ stN xs d = 2 ∨ stN xs d = 3 := by
  rcases own1_cs (k := k) (w := w) (xs := xs) with e | ⟨i, e1, e⟩
  · rw [e] at h; exact h
  · rw [e] at h
    cases hx : xs[i]? with
    | none => unfold setR at h; rw [hx] at h; exact h
    | some x =>
      rw [stN_setR hx] at h
      by_cases c : d = i
      · rw [if_pos c] at h
        have h : (4 : Nat) = 1 ∨ (4 : Nat) = 2 ∨ (4 : Nat) = 3 := h
        omega
      · rw [if_neg c] at h; exact h
theorem odT_own {s : px_TS} (h : odT s) : ∀ d, (stN (ownL s.2.1) d = 1 ∨ stN (ownL s.2.1) d = 2 ∨ stN (ownL s.2.1) d = 3) → d ∈ s.2.2.1 := fun d hd => by
  unfold ownL at hd
  exact h d (own1_st (own1_st (own1_st (own1_st hd))))
