/-! a name's cell changes in a link -/
def frX (p : Nat) (τ τ' : px_TT) : Prop := (∀ a k, a ≠ p → (a ≠ 147 ∨ k ≠ 15) → fI τ' a k = fI τ a k) ∧ (∀ a k, a ≠ p → fJ τ' a k = fJ τ a k) ∧ (∀ a k, a ≠ p → fN τ' a k = fN τ a k) ∧ ((∀ k, k ≤ 2 → fJ τ' p k = fJ τ p k) ∧ fI τ' p 3 = fI τ p 3 ∧ fI τ' p 12 = fI τ p 12) ∧ (∀ a, eI τ' a = eI τ a) ∧ (∀ a, eJ τ' a = eJ τ a) ∧ (∀ a, a ≠ 1693 → eN τ' a = eN τ a)
theorem frX_df {p : Nat} {τ τ' : px_TT} (h : frDf p τ τ') (hp : p ≠ 147) : frX p τ τ' := ⟨fun a k ha h1 => h.1 a k (Or.inl ha) h1, fun a k ha => h.2.1 a k (Or.inl ha), fun a k ha => h.2.2.1 a k (Or.inl ha), ⟨fun k hk => h.2.1 p k (Or.inr (by omega)), h.1 p 3 (Or.inr (by decide)) (Or.inl hp), h.1 p 12 (Or.inr (by decide)) (Or.inl hp)⟩, h.2.2.2.1, h.2.2.2.2.1, h.2.2.2.2.2⟩
theorem frX_I {p k : Nat} {τ : px_TT} {v : Int32} (h3 : k ≠ 3) (h12 : k ≠ 12) : frX p τ (tI τ p k v) := ⟨fun a j ha _ => tI_ne (Or.inl ha), fun _ _ _ => rfl, fun _ _ _ => rfl, ⟨fun _ _ => rfl, tI_ne (Or.inr (fun e => h3 e.symm)), tI_ne (Or.inr (fun e => h12 e.symm))⟩, fun _ => rfl, fun _ => rfl, fun _ _ => rfl⟩
section CNX
variable {F : Nat} {c : px_CT} {sk sk' : Nat → Nat × Nat × Nat} {L L' : Nat} {τ τ' : px_TT} {tb : Nat → Nat → Nat} {xs : px_NL} {od od' : List Nat} {sg : List (List Nat)} {w : List Nat} {own : Nat → Nat × Nat}
theorem NP_X {p : Nat} (hn : NP sk L τ own) (f : frX p τ τ') : NP sk L τ' own := fun A i q hA hq => by
  rw [f.2.2.2.2.2.2 A (by omega)] at hq
  exact hn A i q hA hq
theorem NP_ne {A B i j p q : Nat} (hn : NP sk L τ own) (hA : A = 141 ∨ A = 144 ∨ A = 149) (hB : B = 141 ∨ B = 144 ∨ B = 149) (h1 : eN τ A i = some p) (h2 : eN τ B j = some q) (hne : ¬ (A = B ∧ i = j)) : p ≠ q := fun e => by
  have h3 := (hn A i p hA h1).2.2
  have h4 := (hn B j q hB h2).2.2
  rw [e, h4] at h3
  exact hne ⟨(congrArg Prod.fst h3).symm, (congrArg Prod.snd h3).symm⟩
theorem CLn_upd {i : Nat} {x : List Nat × px_NR} {f : px_NR → px_NR} (h : CLn sk L τ tb xs od sg) (hn : NP sk L τ own) (hx : xs[i]? = some x) (hf : frX (pN τ 149 i) τ τ') (hc : crec tb τ' (pN τ 149 i) (f x.2)) (ho : fI τ' 147 15 = nI od'.length ∧ ∀ (j d : Nat), od'[j]? = some d → d < xs.length ∧ eN τ' 1693 j = some (pN τ 149 d)) : CLn sk L τ' tb (setR xs i f) od' sg := by
  obtain ⟨s1, s2, s3, s4, s5, s6, s7⟩ := id h.1
  obtain ⟨z1, z2, z3, z4⟩ := CLn_at h hx
  have h1815 := (hn 149 i _ (Or.inr (Or.inr rfl)) z2).1
  have e149 : eN τ' 149 = eN τ 149 := hf.2.2.2.2.2.2 149 (by decide)
  have eP : ∀ j, pN τ' 149 j = pN τ 149 j := fun j => by unfold pN; rw [e149]
  have hset : setR xs i f = xs.set i (x.1, f x.2) := by unfold setR; rw [hx]
  refine ⟨?_, fun j y hy => ?_, ⟨ho.1, fun j d hd => ?_⟩, fun v hv => by rw [setR_fst]; exact h.2.2.2 v hv⟩
  · rw [setR_fst]
    refine ⟨s1, (hf.2.2.1 148 0 (by omega)).trans s2, s3, s4, s5, (hf.1 148 2 (by omega) (Or.inl (by decide))).trans s6, fun j v hv => ?_⟩
    obtain ⟨y1, y2, y3, y4⟩ := s7 j v hv
    rw [eP, e149]
    refine ⟨y1, y2, y3, ?_⟩
    by_cases cj : pN τ 149 j = pN τ 149 i
    · rw [cj] at y4 ⊢
      exact ⟨(hf.2.2.2.1.1 0 (by decide)).trans y4.1, (hf.2.2.2.1.1 1 (by decide)).trans y4.2.1, (hf.2.2.2.1.1 2 (by decide)).trans y4.2.2.1, hf.2.2.2.1.2.1.trans y4.2.2.2⟩
    · have := (hn 149 j _ (Or.inr (Or.inr rfl)) y2).1
      exact ⟨(hf.2.1 _ 0 cj).trans y4.1, (hf.2.1 _ 1 cj).trans y4.2.1, (hf.2.1 _ 2 cj).trans y4.2.2.1, (hf.1 _ 3 cj (Or.inl (by omega))).trans y4.2.2.2⟩
  · rw [hset] at hy
    rw [eP]
    by_cases cj : j = i
    · rw [cj, List.getElem?_set_self (List.getElem?_eq_some_iff.mp hx).1] at hy
      have hy : (x.1, f x.2) = y := Option.some.inj hy
      rw [← hy, cj]
      exact ⟨hc, hf.2.2.2.1.2.2.trans (h.2.1 i x hx).2⟩
    · rw [List.getElem?_set_ne (fun e => cj e.symm)] at hy
      obtain ⟨y1, y2, y3, y4⟩ := CLn_at h hy
      have hne : pN τ 149 j ≠ pN τ 149 i := NP_ne hn (Or.inr (Or.inr rfl)) (Or.inr (Or.inr rfl)) y2 z2 (fun e => cj e.2)
      have hg := (hn 149 j _ (Or.inr (Or.inr rfl)) y2).1
      obtain ⟨r1, r2⟩ := h.2.1 j y hy
      exact ⟨crec_fr r1 (fun k => hf.1 _ k hne (Or.inl (by omega))) (fun k => hf.2.1 _ k hne) (fun k => hf.2.2.1 _ k hne), (hf.1 _ 12 hne (Or.inl (by omega))).trans r2⟩
  · obtain ⟨d1, d2⟩ := ho.2 j d hd
    rw [setR_len, eP]
    exact ⟨d1, d2⟩
end CNX
