/-! the class's names in a link -/
/-- what a name's cell says of where its definition is -/
def cdf (tb : Nat → Nat → Nat) (τ : px_TT) (p : Nat) (r : px_NR) : Prop := (r.1 = 0 → fI τ p 5 = nI 0) ∧ (r.1 = 4 → fI τ p 5 = nI 4 ∧ fJ τ p 7 = lN (r.2.2.1 - 1)) ∧ (r.1 = 2 → fI τ p 5 = nI 3 ∧ fJ τ p 7 = lN r.2.2.2.2.2.2 ∧ fJ τ p 8 = lN r.2.2.2.2.2.1) ∧ (r.1 = 1 ∨ r.1 = 3 → r.2.2.2.1 = none → fI τ p 5 = nI 2 ∧ fJ τ p 7 = r.2.2.2.2.1) ∧ (r.1 = 1 ∨ r.1 = 3 → ∀ t k, r.2.2.2.1 = some (t, k) → fJ τ p 7 = lN (yV (tb t) k) ∧ (yW (tb t) k = 65521 → fI τ p 5 = nI 2) ∧ (yW (tb t) k ≠ 65521 → fI τ p 5 = nI 1 ∧ fN τ p 6 = some (152 + (24 * t + yW (tb t) k))))
def crec (tb : Nat → Nat → Nat) (τ : px_TT) (p : Nat) (r : px_NR) : Prop := fI τ p 4 = nI (if r.1 = 4 then 3 else r.1) ∧ (∃ a b, fI τ p 10 = bI a ∧ fI τ p 11 = bI b ∧ (a || b) = r.2.1) ∧ cdf tb τ p r ∧ ((r.1 = 1 ∨ r.1 = 2 ∨ r.1 = 3 → fI τ p 13 = bI true) ∧ fI τ p 15 = nI 0 ∧ fI τ p 16 = nI 0)
theorem crec_fr {tb : Nat → Nat → Nat} {τ τ' : px_TT} {p : Nat} {r : px_NR} (h : crec tb τ p r) (hI : ∀ k, fI τ' p k = fI τ p k) (hJ : ∀ k, fJ τ' p k = fJ τ p k) (hN : ∀ k, fN τ' p k = fN τ p k) : crec tb τ' p r := by
  unfold crec cdf
  rw [hI, hI, hI, hI, hI, hI, hI, hJ, hJ, hN]
  exact h
theorem crec_new {tb : Nat → Nat → Nat} {τ : px_TT} {p : Nat} (h : blk τ p) : crec tb τ p nr0 := by
  obtain ⟨⟨b1, b2, b3, b4, b5, b6⟩, ⟨b7, b8, b9, b10⟩, b11, b12, b13, b14⟩ := h
  exact ⟨b1, ⟨false, false, b7, b8, rfl⟩, ⟨fun _ => b2, fun q => (nomatch q), fun q => (nomatch q), fun q => q.elim (fun q => nomatch q) (fun q => nomatch q), fun q => q.elim (fun q => nomatch q) (fun q => nomatch q)⟩, (fun q => q.elim (fun q => nomatch q) (fun q => q.elim (fun q => nomatch q) (fun q => nomatch q))), b12, b13⟩
def CLn (sk : Nat → Nat × Nat × Nat) (L : Nat) (τ : px_TT) (tb : Nat → Nat → Nat) (xs : px_NL) (od : List Nat) (sg : List (List Nat)) : Prop := isNs sk L τ 148 149 4128 (xs.map Prod.fst) (pN τ 149) ∧ (∀ (i : Nat) (x : List Nat × px_NR), xs[i]? = some x → crec tb τ (pN τ 149 i) x.2 ∧ fI τ (pN τ 149 i) 12 = bI (decide (x.1 ∈ sg))) ∧ (fI τ 147 15 = nI od.length ∧ ∀ (i d : Nat), od[i]? = some d → d < xs.length ∧ eN τ 1693 i = some (pN τ 149 d)) ∧ ∀ w, w ∈ sg → w ∈ xs.map Prod.fst
section CNM
variable {F : Nat} {c : px_CT} {sk sk' : Nat → Nat × Nat × Nat} {L L' : Nat} {τ τ' : px_TT} {tb : Nat → Nat → Nat} {xs : px_NL} {od : List Nat} {sg : List (List Nat)} {w : List Nat}
theorem CLn_at {i : Nat} {x : List Nat × px_NR} (h : CLn sk L τ tb xs od sg) (hx : xs[i]? = some x) : okN x.1 ∧ eN τ 149 i = some (pN τ 149 i) ∧ ob sk L 5 (pN τ 149 i) ∧ isNm τ (pN τ 149 i) x.1 := h.1.2.2.2.2.2.2 i x.1 (by rw [List.getElem?_map, hx]; rfl)
theorem CLn_ent (h : CLn sk L τ tb xs od sg) (hns : isNs sk' L' τ' 148 149 4128 (ent w (xs.map Prod.fst)) (pN τ' 149)) (hb : idx w 0 (xs.map Prod.fst) = none → blk τ' (pN τ' 149 xs.length)) (he : idx w 0 (xs.map Prod.fst) ≠ none → τ' = τ) (hf : frEn 148 149 xs.length τ τ') : CLn sk' L' τ' tb (entL w xs) od sg := by
  obtain ⟨f1, f2, f3, f4, f5, f6, f7⟩ := id hf
  have h147 : oth2 149 xs.length τ 147 := Or.inl (by omega)
  have hl : xs.length ≤ (entL w xs).length := by
    unfold entL
    split
    · exact Nat.le_refl _
    · rw [List.length_append]; omega
  refine ⟨by rw [entL_fst]; exact hns, fun i x hx => ?_, ⟨(f1 147 15 h147 (Or.inl (by decide))).trans h.2.2.1.1, fun i d hd => ?_⟩, fun v hv => by rw [entL_fst]; exact ent_mem.mpr (Or.inr (h.2.2.2 v hv))⟩
  · by_cases ci : i < xs.length
    · have hx2 : xs[i]? = some x := by
        unfold entL at hx
        split at hx
        · exact hx
        · rw [List.getElem?_append_left ci] at hx; exact hx
      obtain ⟨z1, z2, z3, z4⟩ := CLn_at h hx2
      have eP : pN τ' 149 i = pN τ 149 i := by unfold pN; rw [f7 i (by omega)]
      have hoi : oth2 149 xs.length τ (pN τ 149 i) := Or.inr ⟨149, i, Or.inr (Or.inr rfl), z2, fun e => by omega⟩
      have hN : pN τ 149 i ≠ 148 := fun q => by
        have h1 : ks 148 = (0, 6, 0) := by decide
        have h2 := z3.1
        rw [q] at h2
        have h3 := h.1.1.1
        rw [h2] at h3
        cases h3
      obtain ⟨r1, r2⟩ := h.2.1 i x hx2
      rw [eP]
      exact ⟨crec_fr r1 (fun k => f1 _ k hoi (Or.inl hN)) (fun k => f2 _ k hoi) (fun k => f3 _ k hoi), (f1 _ 12 hoi (Or.inl hN)).trans r2⟩
    · have ei : (idx w 0 (xs.map Prod.fst)) = none := by
        cases e : idx w 0 (xs.map Prod.fst) with
        | none => rfl
        | some j =>
          unfold entL at hx
          rw [if_pos (by rw [e]; rfl)] at hx
          exact absurd (List.getElem?_eq_some_iff.mp hx).1 ci
      unfold entL at hx
      rw [if_neg (by rw [ei]; decide)] at hx
      have hi : i = xs.length := by
        have := (List.getElem?_eq_some_iff.mp hx).1
        rw [List.length_append, List.length_singleton] at this
        omega
      rw [hi, List.getElem?_append_right (Nat.le_refl _), Nat.sub_self] at hx
      have hx : (w, nr0) = x := Option.some.inj hx
      rw [← hx, hi]
      have hb := hb ei
      refine ⟨crec_new hb, ?_⟩
      have hw : w ∉ sg := fun q => by
        have h1 := idx_iff.mpr (h.2.2.2 w q)
        rw [ei] at h1
        cases h1
      show _ = bI (decide (w ∈ sg))
      rw [decide_eq_false hw]
      exact hb.2.1.2.2.1
  · obtain ⟨d1, d2⟩ := h.2.2.1.2 i d hd
    refine ⟨by omega, ?_⟩
    have eP : pN τ' 149 d = pN τ 149 d := by unfold pN; rw [f7 d (by omega)]
    rw [f6 1693 (by decide), eP]
    exact d2
end CNM
