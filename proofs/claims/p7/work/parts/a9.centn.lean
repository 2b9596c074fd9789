/-! enterNames of the class -/
theorem idx_app {w : List Nat} {l' : List (List Nat)} : ∀ {l : List (List Nat)} {k i : Nat}, idx w k l = some i → idx w k (l ++ l') = some i
  | [], k, i, h => by cases h
  | v :: l, k, i, h => by
    show (if v = w then some k else idx w (k + 1) (l ++ l')) = some i
    have h : (if v = w then some k else idx w (k + 1) l) = some i := h
    by_cases c : v = w
    · rw [if_pos c] at h ⊢; exact h
    · rw [if_neg c] at h ⊢; exact idx_app h
theorem plc_ent {w v : List Nat} {l : List (List Nat)} (h : v ∈ l) : plc v (ent w l) = plc v l := by
  obtain ⟨i, hi⟩ := Option.isSome_iff_exists.mp (idx_iff.mpr h)
  unfold ent
  split
  · rfl
  · unfold plc; rw [hi, idx_app hi]; rfl
theorem plc_lt {v : List Nat} {l : List (List Nat)} (h : v ∈ l) : plc v l < l.length := by
  obtain ⟨i, hi⟩ := Option.isSome_iff_exists.mp (idx_iff.mpr h)
  have := idx_lt hi
  unfold plc; rw [hi]
  show i < _
  omega
/-- symbol k of an object has a name -/
def hsN (b : Nat → Nat) (k : Nat) : Bool := decide (1 ≤ k ∧ k < oM b ∧ yB b k ≠ 0)
def ec1 (b : Nat → Nat) (k : Nat) (xs : px_NL) : px_NL := if hsN b k = true then entL (yT b k) xs else xs
/-- the name's cell in the class's table of symbols -/
def syN (τ : px_TT) (b : Nat → Nat) (xs : px_NL) (k : Nat) : Option Nat := if hsN b k = true then some (pN τ 149 (plc (yT b k) (xs.map Prod.fst))) else none
/-- rows of the table, up to j -/
def RSy (τ : px_TT) (t : Nat) (b : Nat → Nat) (xs : px_NL) (j : Nat) : Prop := ∀ k, k < j → eN τ 1692 (64 * t + k) = syN τ b xs k ∧ (hsN b k = true → yT b k ∈ xs.map Prod.fst)
/-- what entering an object's names leaves -/
def frSy (t N : Nat) (τ τ' : px_TT) : Prop := (∀ a k, a < 1815 → a ≠ 1695 → (a ≠ 148 ∨ k ≠ 2) → fI τ' a k = fI τ a k) ∧ (∀ a k, a < 1815 → a ≠ 1695 → fJ τ' a k = fJ τ a k) ∧ (∀ a k, a < 1815 → fN τ' a k = fN τ a k) ∧ (∀ a, eI τ' a = eI τ a) ∧ (∀ a, eJ τ' a = eJ τ a) ∧ (∀ a, a ≠ 149 → a ≠ 1692 → eN τ' a = eN τ a) ∧ (∀ i, (i < 64 * t ∨ 64 * t + 64 ≤ i) → eN τ' 1692 i = eN τ 1692 i) ∧ ∀ B i p, (B = 141 ∨ B = 144 ∨ (B = 149 ∧ i < N)) → eN τ B i = some p → eN τ' B i = some p ∧ (∀ k, fI τ' p k = fI τ p k) ∧ (∀ k, fJ τ' p k = fJ τ p k) ∧ ∀ k, fN τ' p k = fN τ p k
theorem frSy_refl {t N : Nat} {τ : px_TT} : frSy t N τ τ := ⟨fun _ _ _ _ _ => rfl, fun _ _ _ _ => rfl, fun _ _ _ => rfl, fun _ => rfl, fun _ => rfl, fun _ _ _ => rfl, fun _ _ => rfl, fun _ _ _ _ h => ⟨h, fun _ => rfl, fun _ => rfl, fun _ => rfl⟩⟩
theorem frSy_trans {t N N' : Nat} {τ τ1 τ2 : px_TT} (h : frSy t N τ τ1) (g : frSy t N' τ1 τ2) (hN : N ≤ N') : frSy t N τ τ2 := by
  refine ⟨fun a k h1 h2 h3 => (g.1 a k h1 h2 h3).trans (h.1 a k h1 h2 h3), fun a k h1 h2 => (g.2.1 a k h1 h2).trans (h.2.1 a k h1 h2), fun a k h1 => (g.2.2.1 a k h1).trans (h.2.2.1 a k h1), fun a => (g.2.2.2.1 a).trans (h.2.2.2.1 a), fun a => (g.2.2.2.2.1 a).trans (h.2.2.2.2.1 a), fun a h1 h2 => (g.2.2.2.2.2.1 a h1 h2).trans (h.2.2.2.2.2.1 a h1 h2), fun i h1 => (g.2.2.2.2.2.2.1 i h1).trans (h.2.2.2.2.2.2.1 i h1), fun B i p hB hp => ?_⟩
  have a1 := h.2.2.2.2.2.2.2 B i p hB hp
  have a2 := g.2.2.2.2.2.2.2 B i p (by omega) a1.1
  exact ⟨a2.1, fun k => (a2.2.1 k).trans (a1.2.1 k), fun k => (a2.2.2.1 k).trans (a1.2.2.1 k), fun k => (a2.2.2.2 k).trans (a1.2.2.2 k)⟩
section CES
variable {F : Nat} {c : px_CT} {sk : Nat → Nat × Nat × Nat} {L : Nat} {τ τ' : px_TT} {own : Nat → Nat × Nat} {t N : Nat}
theorem frSy_N (hn : NP sk L τ own) (f : frN 1695 τ τ') : frSy t N τ τ' := by
  refine ⟨fun a k _ h _ => f.1 a k (Or.inl h), fun a k _ h => f.2.1 a k (Or.inl h), fun a k _ => f.2.2.1 a k, f.2.2.2.1, f.2.2.2.2.1, fun a _ _ => f.2.2.2.2.2 a, fun i _ => by rw [f.2.2.2.2.2], fun B i p hB hp => ?_⟩
  have := (hn B i p (by omega) hp).1
  exact ⟨by rw [f.2.2.2.2.2]; exact hp, fun k => f.1 p k (Or.inl (by omega)), fun k => f.2.1 p k (Or.inl (by omega)), fun k => f.2.2.1 p k⟩
theorem frSy_En (hn : NP sk L τ own) (f : frEn 148 149 N τ τ') : frSy t N τ τ' := by
  refine ⟨fun a k h1 _ h2 => f.1 a k (Or.inl h1) h2, fun a k h1 _ => f.2.1 a k (Or.inl h1), fun a k h1 => f.2.2.1 a k (Or.inl h1), f.2.2.2.1, f.2.2.2.2.1, fun a h1 _ => f.2.2.2.2.2.1 a h1, fun i _ => by rw [f.2.2.2.2.2.1 1692 (by decide)], fun B i p hB hp => ?_⟩
  have hB3 : B = 141 ∨ B = 144 ∨ B = 149 := by omega
  have h1 := (hn B i p hB3 hp).1
  have ho : oth2 149 N τ p := Or.inr ⟨B, i, hB3, hp, fun e => by omega⟩
  refine ⟨?_, fun k => f.1 p k ho (Or.inl (by omega)), fun k => f.2.1 p k ho, fun k => f.2.2.1 p k ho⟩
  by_cases cB : B = 149
  · rw [cB] at hp ⊢
    rw [f.2.2.2.2.2.2 i (by omega)]; exact hp
  · rw [f.2.2.2.2.2.1 B cB]; exact hp
theorem frSy_v {j : Nat} {v : Option Nat} (hj : j < 64) : frSy t N τ (vN τ 1692 (va_up (eN τ 1692) (64 * t + j) v)) := by
  have hE : ∀ a, a ≠ 1692 → eN (vN τ 1692 (va_up (eN τ 1692) (64 * t + j) v)) a = eN τ a := fun a h => u1_ne h
  have hA : eN (vN τ 1692 (va_up (eN τ 1692) (64 * t + j) v)) 1692 = va_up (eN τ 1692) (64 * t + j) v := (u1_eq : u1 τ.2.2.2.2.2 1692 (va_up (eN τ 1692) (64 * t + j) v) 1692 = _)
  exact ⟨fun _ _ _ _ _ => rfl, fun _ _ _ _ => rfl, fun _ _ _ => rfl, fun _ => rfl, fun _ => rfl, fun a _ h => hE a h, fun i h => by rw [hA, va_up_n (by omega)], fun B i p hB hp => ⟨by rw [hE B (by omega)]; exact hp, fun _ => rfl, fun _ => rfl, fun _ => rfl⟩⟩
end CES
