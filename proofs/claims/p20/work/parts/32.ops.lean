/-! code as functions on the heap of cells: what they are made of -/
abbrev px_qI (r : Int32) (p : px_H) : px_Q := fun o ph' => ph' = p ∧ o = .inl (some (.int r))
abbrev px_qJ (r : Int64) (p : px_H) : px_Q := fun o ph' => ph' = p ∧ o = .inl (some (.long r))
abbrev px_qR (r : Nat) (p : px_H) : px_Q := fun o ph' => ph' = p ∧ o = .inl (some (.ref r))
abbrev px_qV (_ : Unit) (p : px_H) : px_Q := fun o ph' => ph' = p ∧ o = .inl none
/-- a small constant, by its numeral -/
theorem px_ic {l : Launch} {g : px_G} {d mi pc : Nat} {lv : px_L} {st : List Value} {ph : px_H} {Q : px_Q} {i : Instr} {len nx r1 r2 k : Nat} (hcd : pg_cd mi pc = some (i, nx, r1, r2)) (ha : pm_alu i st = some (len, .int (nI k) :: st)) (hp : pc + len = nx) (kk : PW l g d mi nx lv (.int (nI k) :: st) ph Q) : PW l g d mi pc lv st ph Q := px_alu hcd ha hp kk
theorem xs_some {α β : Type} {o : Option α} {k : α → Option β} {y : β} (h : o.bind k = some y) : ∃ x, o = some x ∧ k x = some y := by
  cases o with
  | none => cases h
  | some x => exact ⟨x, rfl, h⟩
def xb {α β : Type} (o : Option (α × px_H)) (k : α → px_H → Option β) : Option β := match o with
  | some q => k q.1 q.2
  | none => none
theorem xb_some {α β : Type} {o : Option (α × px_H)} {k : α → px_H → Option β} {y : β} (h : xb o k = some y) : ∃ x p, o = some (x, p) ∧ k x p = some y := by
  cases o with
  | none => cases h
  | some q => exact ⟨q.1, q.2, rfl, h⟩
/-- the fields of the object at a, one of class ci -/
def xo (ph : px_H) (ci a : Nat) : Option (List Value) := match ph[a]? with
  | some (.inr q) => if q.1 = ci then some q.2 else none
  | _ => none
theorem xo_some {ph : px_H} {ci a : Nat} {fs : List Value} (h : xo ph ci a = some fs) : ph[a]? = some (.inr (ci, fs)) := by
  unfold xo at h
  split at h
  next q hq =>
    by_cases hc : q.1 = ci
    · rw [if_pos hc] at h
      cases h
      rw [hq, ← hc]
    · rw [if_neg hc] at h
      cases h
  next => cases h
def xi : Option Value → Option Int32
  | some (.int x) => some x
  | _ => none
def xj : Option Value → Option Int64
  | some (.long x) => some x
  | _ => none
def xr : Option Value → Option Nat
  | some (.ref x) => some x
  | _ => none
theorem xi_some {v : Option Value} {x : Int32} (h : xi v = some x) : v = some (.int x) := by
  unfold xi at h
  split at h
  next => cases h; rfl
  next => cases h
theorem xj_some {v : Option Value} {x : Int64} (h : xj v = some x) : v = some (.long x) := by
  unfold xj at h
  split at h
  next => cases h; rfl
  next => cases h
theorem xr_some {v : Option Value} {x : Nat} (h : xr v = some x) : v = some (.ref x) := by
  unfold xr at h
  split at h
  next => cases h; rfl
  next => cases h
def xgI (ph : px_H) (ci k a : Nat) : Option Int32 := (xo ph ci a).bind fun fs => xi fs[k]?
def xgJ (ph : px_H) (ci k a : Nat) : Option Int64 := (xo ph ci a).bind fun fs => xj fs[k]?
def xgR (ph : px_H) (ci k a : Nat) : Option Nat := (xo ph ci a).bind fun fs => xr fs[k]?
theorem xgI_some {ph : px_H} {ci k a : Nat} {x : Int32} (h : xgI ph ci k a = some x) : ∃ fs, ph[a]? = some (.inr (ci, fs)) ∧ fs[k]? = some (.int x) := by
  obtain ⟨fs, h1, h2⟩ := xs_some h
  exact ⟨fs, xo_some h1, xi_some h2⟩
theorem xgJ_some {ph : px_H} {ci k a : Nat} {x : Int64} (h : xgJ ph ci k a = some x) : ∃ fs, ph[a]? = some (.inr (ci, fs)) ∧ fs[k]? = some (.long x) := by
  obtain ⟨fs, h1, h2⟩ := xs_some h
  exact ⟨fs, xo_some h1, xj_some h2⟩
theorem xgR_some {ph : px_H} {ci k a : Nat} {x : Nat} (h : xgR ph ci k a = some x) : ∃ fs, ph[a]? = some (.inr (ci, fs)) ∧ fs[k]? = some (.ref x) := by
  obtain ⟨fs, h1, h2⟩ := xs_some h
  exact ⟨fs, xo_some h1, xr_some h2⟩
/-- a field put -/
def xp (ph : px_H) (ci k a : Nat) (v : Value) : Option px_H := (xo ph ci a).bind fun fs => if Nat.blt k fs.length = true then some (ph.set a (.inr (ci, fs.set k v))) else none
theorem xp_some {ph p : px_H} {ci k a : Nat} {v : Value} (h : xp ph ci k a v = some p) : ∃ fs, ph[a]? = some (.inr (ci, fs)) ∧ Nat.blt k fs.length = true ∧ p = ph.set a (.inr (ci, fs.set k v)) := by
  obtain ⟨fs, h1, h2⟩ := xs_some h
  by_cases hc : Nat.blt k fs.length = true
  · rw [if_pos hc] at h2
    cases h2
    exact ⟨fs, xo_some h1, hc, rfl⟩
  · rw [if_neg hc] at h2
    cases h2
def xpI (ph : px_H) (ci k a : Nat) (x : Int32) : Option px_H := xp ph ci k a (.int x)
def xpJ (ph : px_H) (ci k a : Nat) (x : Int64) : Option px_H := xp ph ci k a (.long x)
def xpZ (ph : px_H) (ci k a : Nat) (x : Int32) : Option px_H := if x = 0 ∨ x = 1 then xp ph ci k a (.int x) else none
theorem xpI_some {ph p : px_H} {ci k a : Nat} {x : Int32} (h : xpI ph ci k a x = some p) : ∃ fs, ph[a]? = some (.inr (ci, fs)) ∧ Nat.blt k fs.length = true ∧ p = ph.set a (.inr (ci, fs.set k (.int x))) := xp_some h
theorem xpJ_some {ph p : px_H} {ci k a : Nat} {x : Int64} (h : xpJ ph ci k a x = some p) : ∃ fs, ph[a]? = some (.inr (ci, fs)) ∧ Nat.blt k fs.length = true ∧ p = ph.set a (.inr (ci, fs.set k (.long x))) := xp_some h
theorem xpZ_some {ph p : px_H} {ci k a : Nat} {x : Int32} (h : xpZ ph ci k a x = some p) : ∃ fs, ph[a]? = some (.inr (ci, fs)) ∧ Nat.blt k fs.length = true ∧ p = ph.set a (.inr (ci, fs.set k (.int x))) ∧ (x = 0 ∨ x = 1) := by
  unfold xpZ at h
  by_cases hc : x = 0 ∨ x = 1
  · rw [if_pos hc] at h
    obtain ⟨fs, h1, h2, h3⟩ := xp_some h
    exact ⟨fs, h1, h2, h3, hc⟩
  · rw [if_neg hc] at h
    cases h
/-- the array of ints (bytes, booleans) at a, of type t -/
def xA (ph : px_H) (t a : Nat) : Option (Nat × (Nat → Int32)) := match ph[a]? with
  | some (.inl (u, n, .inl f)) => if u = t then some (n, f) else none
  | _ => none
def xB (ph : px_H) (t a : Nat) : Option (Nat × (Nat → Int64)) := match ph[a]? with
  | some (.inl (u, n, .inr (.inl f))) => if u = t then some (n, f) else none
  | _ => none
theorem xA_some {ph : px_H} {t a : Nat} {q : Nat × (Nat → Int32)} (h : xA ph t a = some q) : ph[a]? = some (.inl (t, q.1, .inl q.2)) := by
  unfold xA at h
  split at h
  next u n f hq =>
    by_cases hc : u = t
    · rw [if_pos hc] at h
      cases h
      rw [hq, hc]
    · rw [if_neg hc] at h
      cases h
  next => cases h
theorem xB_some {ph : px_H} {t a : Nat} {q : Nat × (Nat → Int64)} (h : xB ph t a = some q) : ph[a]? = some (.inl (t, q.1, .inr (.inl q.2))) := by
  unfold xB at h
  split at h
  next u n f hq =>
    by_cases hc : u = t
    · rw [if_pos hc] at h
      cases h
      rw [hq, hc]
    · rw [if_neg hc] at h
      cases h
  next => cases h
def xaI (ph : px_H) (t a : Nat) (i : Int32) : Option Int32 := (xA ph t a).bind fun q => if i < 0 ∨ q.1 ≤ i.toNatClampNeg then none else some (q.2 i.toNatClampNeg)
def xaJ (ph : px_H) (t a : Nat) (i : Int32) : Option Int64 := (xB ph t a).bind fun q => if i < 0 ∨ q.1 ≤ i.toNatClampNeg then none else some (q.2 i.toNatClampNeg)
theorem xaI_some {ph : px_H} {t a : Nat} {i x : Int32} (h : xaI ph t a i = some x) : ∃ N f, ph[a]? = some (.inl (t, N, .inl f)) ∧ vp_in i N ∧ x = f i.toNatClampNeg := by
  obtain ⟨q, h1, h2⟩ := xs_some h
  by_cases hc : i < 0 ∨ q.1 ≤ i.toNatClampNeg
  · rw [if_pos hc] at h2
    cases h2
  · rw [if_neg hc] at h2
    cases h2
    exact ⟨q.1, q.2, xA_some h1, hc, rfl⟩
theorem xaJ_some {ph : px_H} {t a : Nat} {i : Int32} {x : Int64} (h : xaJ ph t a i = some x) : ∃ N f, ph[a]? = some (.inl (t, N, .inr (.inl f))) ∧ vp_in i N ∧ x = f i.toNatClampNeg := by
  obtain ⟨q, h1, h2⟩ := xs_some h
  by_cases hc : i < 0 ∨ q.1 ≤ i.toNatClampNeg
  · rw [if_pos hc] at h2
    cases h2
  · rw [if_neg hc] at h2
    cases h2
    exact ⟨q.1, q.2, xB_some h1, hc, rfl⟩
def xsI (ph : px_H) (t a : Nat) (i x : Int32) : Option px_H := (xA ph t a).bind fun q => if i < 0 ∨ q.1 ≤ i.toNatClampNeg then none else some (ph.set a (.inl (t, q.1, .inl (upd q.2 i.toNatClampNeg x))))
def xsJ (ph : px_H) (t a : Nat) (i : Int32) (x : Int64) : Option px_H := (xB ph t a).bind fun q => if i < 0 ∨ q.1 ≤ i.toNatClampNeg then none else some (ph.set a (.inl (t, q.1, .inr (.inl (vp_updL q.2 i.toNatClampNeg x)))))
theorem xsI_some {ph p : px_H} {t a : Nat} {i x : Int32} (h : xsI ph t a i x = some p) : ∃ N f, ph[a]? = some (.inl (t, N, .inl f)) ∧ vp_in i N ∧ p = ph.set a (.inl (t, N, .inl (upd f i.toNatClampNeg x))) := by
  obtain ⟨q, h1, h2⟩ := xs_some h
  by_cases hc : i < 0 ∨ q.1 ≤ i.toNatClampNeg
  · rw [if_pos hc] at h2
    cases h2
  · rw [if_neg hc] at h2
    cases h2
    exact ⟨q.1, q.2, xA_some h1, hc, rfl⟩
theorem xsJ_some {ph p : px_H} {t a : Nat} {i : Int32} {x : Int64} (h : xsJ ph t a i x = some p) : ∃ N f, ph[a]? = some (.inl (t, N, .inr (.inl f))) ∧ vp_in i N ∧ p = ph.set a (.inl (t, N, .inr (.inl (vp_updL f i.toNatClampNeg x)))) := by
  obtain ⟨q, h1, h2⟩ := xs_some h
  by_cases hc : i < 0 ∨ q.1 ≤ i.toNatClampNeg
  · rw [if_pos hc] at h2
    cases h2
  · rw [if_neg hc] at h2
    cases h2
    exact ⟨q.1, q.2, xB_some h1, hc, rfl⟩
def xal (ph : px_H) (t a : Nat) : Option Int32 := match ph[a]? with
  | some (.inl q) => if q.1 = t then some (nI q.2.1) else none
  | _ => none
theorem xal_some {ph : px_H} {t a : Nat} {y : Int32} (h : xal ph t a = some y) : ∃ x, ph[a]? = some (.inl (t, x)) ∧ y = nI x.1 := by
  unfold xal at h
  split at h
  next q hq =>
    by_cases hc : q.1 = t
    · rw [if_pos hc] at h
      cases h
      exact ⟨q.2, by rw [hq, ← hc], rfl⟩
    · rw [if_neg hc] at h
      cases h
  next => cases h
def xnzI (y : Int32) : Option Unit := if y = 0 then none else some ()
def xnzJ (y : Int64) : Option Unit := if y = 0 then none else some ()
theorem xnzI_some {y : Int32} {u : Unit} (h : xnzI y = some u) : ¬ y = 0 := by
  intro hc
  rw [xnzI, if_pos hc] at h
  cases h
theorem xnzJ_some {y : Int64} {u : Unit} (h : xnzJ y = some u) : ¬ y = 0 := by
  intro hc
  rw [xnzJ, if_pos hc] at h
  cases h
/-- a boolean answer -/
def xz (x : Int32) (ph : px_H) : Option (Int32 × px_H) := if x = 0 ∨ x = 1 then some (x, ph) else none
theorem xz_some {x r : Int32} {ph p : px_H} (h : xz x ph = some (r, p)) : (x = 0 ∨ x = 1) ∧ r = x ∧ p = ph := by
  unfold xz at h
  by_cases hc : x = 0 ∨ x = 1
  · rw [if_pos hc] at h
    cases h
    exact ⟨hc, rfl, rfl⟩
  · rw [if_neg hc] at h
    cases h
