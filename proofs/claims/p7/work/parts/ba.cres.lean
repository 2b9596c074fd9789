/-! resolve of the class -/
def frRs (τ τ' : px_TT) : Prop := (∀ a k, a < 1815 → a ≠ 1695 → (a ≠ 148 ∨ k ≠ 2) → (a ≠ 147 ∨ (k < 14 ∨ 17 < k)) → (a < 152 ∨ 1688 ≤ a) → (¬ (10 ≤ a ∧ a < 138) ∨ (k ≠ 15 ∧ k ≠ 16)) → fI τ' a k = fI τ a k) ∧ (∀ a k, a < 1815 → a ≠ 1695 → (a ≠ 147 ∨ k ≠ 19) → (a < 152 ∨ 1688 ≤ a) → fJ τ' a k = fJ τ a k) ∧ (∀ a k, a < 1815 → (a ≠ 147 ∨ k ≠ 13) → fN τ' a k = fN τ a k) ∧ (∀ a, eI τ' a = eI τ a) ∧ (∀ a, eJ τ' a = eJ τ a) ∧ (∀ a, a ≠ 149 → a ≠ 1692 → a ≠ 1693 → a ≠ 1689 → a ≠ 1694 → eN τ' a = eN τ a)
theorem frRs_trans {τ τ1 τ2 : px_TT} (h : frRs τ τ1) (g : frRs τ1 τ2) : frRs τ τ2 := ⟨fun a k a1 a2 a3 a4 a5 a6 => (g.1 a k a1 a2 a3 a4 a5 a6).trans (h.1 a k a1 a2 a3 a4 a5 a6), fun a k a1 a2 a3 a4 => (g.2.1 a k a1 a2 a3 a4).trans (h.2.1 a k a1 a2 a3 a4), fun a k a1 a2 => (g.2.2.1 a k a1 a2).trans (h.2.2.1 a k a1 a2), fun a => (g.2.2.2.1 a).trans (h.2.2.2.1 a), fun a => (g.2.2.2.2.1 a).trans (h.2.2.2.2.1 a), fun a a1 a2 a3 a4 a5 => (g.2.2.2.2.2 a a1 a2 a3 a4 a5).trans (h.2.2.2.2.2 a a1 a2 a3 a4 a5)⟩
theorem frRs_Ln {N : Nat} {τ τ' : px_TT} (f : frLn N τ τ') : frRs τ τ' := ⟨fun a k a1 a2 a3 a4 a5 a6 => f.1 a k a1 a2 a3 (by omega) a5 a6, fun a k a1 a2 _ a4 => f.2.1 a k a1 a2 a4, f.2.2.1, f.2.2.2.1, f.2.2.2.2.1, fun a a1 a2 a3 a4 _ => f.2.2.2.2.2.1 a a1 a2 a3 a4⟩
theorem frRs_Kr {τ τ' : px_TT} (f : frKr τ τ') : frRs τ τ' := ⟨fun a k a1 a2 a3 a4 a5 a6 => f.1 a k a1 (by omega) (by omega), fun a k _ _ _ _ => f.2.2.1 a k, fun a k _ _ => f.2.2.2.1 a k, f.2.2.2.2.1, f.2.2.2.2.2.1, fun a _ _ _ _ a5 => f.2.2.2.2.2.2 a a5⟩
theorem frRs_b {τ : px_TT} {v : Option Nat} : frRs τ (tN τ 147 13 v) := ⟨fun _ _ _ _ _ _ _ _ => rfl, fun _ _ _ _ _ _ => rfl, fun a k _ h => by rw [fN_tN, if_neg (by omega)], fun _ => rfl, fun _ => rfl, fun _ _ _ _ _ _ => rfl⟩
section CRV
variable {F : Nat} {c : px_CT} {sk sk' : Nat → Nat × Nat × Nat} {L L' : Nat} {τ τ' : px_TT} {own : Nat → Nat × Nat} {fs : px_FS} {s : px_TK} {xs : px_NL} {ST ST' rn rn' : Nat → Bool} {gs : List (List Nat × Int64)} {ws : List (List Nat)} {k : Nat}
theorem CF_FSo (h : CF sk L τ fs) : FSo fs := fun q o n b ho => by
  obtain ⟨x1, x2, x3, x4, x5, x6⟩ := CF_ob h ho
  exact ⟨x1, by rw [← x3]; exact (x6 rfl).2.2⟩
theorem TKe_ST (h : TKe sk L own τ fs s xs ST rn) (h1 : ∀ x, x < 24 * s.2.2.1.length → ST' x = ST x) (h2 : ∀ i, rn' i = rn i) : TKe sk L own τ fs s xs ST' rn' := by
  obtain ⟨a1, a2, a3, ⟨k1, k2, k3, k4⟩, a5, a6, a7⟩ := h
  refine ⟨a1, a2, a3, ⟨k1, ⟨k2.1, fun i x hx => ⟨(k2.2.1 i x hx).1, fun e => by rw [h2]; exact (k2.2.1 i x hx).2 e⟩, k2.2.2⟩, k3, fun t q hq => ?_⟩, a5, a6, a7⟩
  obtain ⟨r1, r2⟩ := k4 t q hq
  have ht := (List.getElem?_eq_some_iff.mp hq).1
  exact ⟨fun i hi => by rw [h1 _ (by omega)]; exact r1 i hi, r2⟩
/-- what can be reached is kept -/
theorem Rch_sec {T : Nat} {tb : Nat → Nat → Nat} {dr : Nat → Bool} {x : Nat} (hS : ∀ t, t < T → oS (tb t) ≤ 24) (hb : AL (byP T tb dr) xs) (h : Rch T tb dr xs (stR tb dr xs) x) : kpB (tb (x / 24)) (x % 24) = true ∧ dr x = false := by
  have hs : ∀ t w y, t < T → secT tb dr t w = some y → kpB (tb (y / 24)) (y % 24) = true ∧ dr y = false := fun t w y ht hy => by
    obtain ⟨e1, e2, e3, e4, e5⟩ := secT_m hy
    have := hS t ht
    rw [e1, show (24 * t + w) / 24 = t by omega, show (24 * t + w) % 24 = w by omega]
    exact ⟨(Bool.and_eq_true _ _).mpr ⟨decide_eq_true e3, e4⟩, e5⟩
  have hn : ∀ (i : Nat) (r : List Nat × px_NR) (y : Nat), xs[i]? = some r → secN tb dr r.2 = some y → kpB (tb (y / 24)) (y % 24) = true ∧ dr y = false := fun i r y hi hy => by
    have hbi := hb i r hi
    unfold byP at hbi
    unfold secN at hy
    cases e : r.2.2.2.2.1 with
    | none => rw [e] at hy; cases hy
    | some q =>
      rw [e] at hy hbi
      have hy : (if r.2.1 = 1 ∨ r.2.1 = 3 then secT tb dr q.1 (wNo dr q.1 (tb q.1) q.2) else none) = some y := hy
      split at hy
      · exact hs _ _ _ hbi.1 hy
      · cases hy
  refine h (fun y => kpB (tb (y / 24)) (y % 24) = true ∧ dr y = false) (fun y hy => ?_) (fun t i j ht _ _ _ _ _ _ y hy => ?_)
  · unfold stR at hy
    cases e : dfI wST xs with
    | none => rw [e] at hy; cases hy
    | some i =>
      rw [e] at hy
      have hy : secN tb dr (xs.getD i ([], nr0)).2 = some y := hy
      rw [List.getD_eq_getElem?_getD] at hy
      cases e2 : xs[i]? with
      | none => rw [e2] at hy; exact (nomatch (show (none : Option Nat) = some y from hy))
      | some r => rw [e2] at hy; exact hn i r y e2 hy
  · unfold secY at hy
    split at hy
    · cases hy
    · split at hy
      · exact hs _ _ _ ht hy
      · cases e2 : xs[plc (yT (tb t) (sY (tb t) i j)) (xs.map Prod.fst)]? with
        | none => rw [e2] at hy; cases hy
        | some r => rw [e2] at hy; exact hn _ r y e2 hy
end CRV
