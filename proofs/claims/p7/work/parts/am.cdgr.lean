/-! dropGroups of the class -/
/-- what the class has marked as taken stays -/
def frTq (τ τ' : px_TT) : Prop := fI τ' 147 14 = fI τ 147 14 ∧ (∀ a k, 10 ≤ a → a < 138 → fI τ' a k = fI τ a k) ∧ eN τ' 1689 = eN τ 1689
theorem frTq_refl {τ : px_TT} : frTq τ τ := ⟨rfl, fun _ _ _ _ => rfl, rfl⟩
theorem frTq_trans {τ τ1 τ2 : px_TT} (h : frTq τ τ1) (g : frTq τ1 τ2) : frTq τ τ2 := ⟨g.1.trans h.1, fun a k h1 h2 => (g.2.1 a k h1 h2).trans (h.2.1 a k h1 h2), g.2.2.trans h.2.2⟩
theorem frTq_I {τ : px_TT} {a k : Nat} {v : Int32} (h : 1815 ≤ a ∨ (a = 147 ∧ k ≠ 14)) : frTq τ (tI τ a k v) := ⟨tI_ne (by omega), fun x y h1 h2 => tI_ne (Or.inl (by omega)), rfl⟩
theorem frTq_Op {τ τ' : px_TT} {t : Nat} (f : frOp t τ τ') : frTq τ τ' := ⟨f.1 147 14 (by omega), fun a k h1 h2 => f.1 a k (by omega), f.2.2.2.2.2 1689⟩
theorem frTq_X {τ τ' : px_TT} {p : Nat} (f : frX p τ τ') (hp : 1815 ≤ p) : frTq τ τ' := ⟨f.1 147 14 (by omega) (Or.inr (by decide)), fun a k h1 h2 => f.1 a k (by omega) (Or.inl (by omega)), f.2.2.2.2.2.2 1689 (by decide)⟩
theorem frTq_Sy {τ τ' : px_TT} {t N : Nat} (f : frSy t N τ τ') : frTq τ τ' := ⟨f.1 147 14 (by decide) (by decide) (Or.inl (by decide)), fun a k h1 h2 => f.1 a k (by omega) (by omega) (Or.inl (by omega)), f.2.2.2.2.2.1 1689 (by decide) (by decide)⟩
section CDG
variable {F : Nat} {c : px_CT} {sk sk' : Nat → Nat × Nat × Nat} {L L' : Nat} {τ τ' : px_TT} {tb : Nat → Nat → Nat} {xs : px_NL} {od : List Nat} {sg sg' : List (List Nat)} {own : Nat → Nat × Nat} {w : List Nat} {t N : Nat} {b : Nat → Nat}
theorem CLn_fx (h : CLn sk L τ tb xs od sg) (hn : NP sk L τ own) (e : EX sk L sk' L') (hI : ∀ a k, (1815 ≤ a ∨ (a = 148 ∧ k = 2) ∨ (a = 147 ∧ k = 15)) → fI τ' a k = fI τ a k) (hJ : ∀ a k, 1815 ≤ a → fJ τ' a k = fJ τ a k) (hN : ∀ a k, (1815 ≤ a ∨ a = 148) → fN τ' a k = fN τ a k) (e1 : eN τ' 149 = eN τ 149) (e2 : eN τ' 1693 = eN τ 1693) : CLn sk' L' τ' tb xs od sg := by
  obtain ⟨⟨s1, s2, s3, s4, s5, s6, s7⟩, h2, h3, h4⟩ := h
  have eP : ∀ j, pN τ' 149 j = pN τ 149 j := fun j => by unfold pN; rw [e1]
  refine ⟨⟨ob_ex s1 e, (hN 148 0 (Or.inr rfl)).trans s2, ar_ex s3 e, s4, s5, (hI 148 2 (by omega)).trans s6, fun j v hv => ?_⟩, fun i x hx => ?_, ⟨(hI 147 15 (by omega)).trans h3.1, fun i d hd => ?_⟩, h4⟩
  · obtain ⟨y1, y2, y3, y4⟩ := s7 j v hv
    have hg := (hn 149 j _ (Or.inr (Or.inr rfl)) y2).1
    rw [eP, e1]
    exact ⟨y1, y2, ob_ex y3 e, (hJ _ 0 hg).trans y4.1, (hJ _ 1 hg).trans y4.2.1, (hJ _ 2 hg).trans y4.2.2.1, (hI _ 3 (Or.inl hg)).trans y4.2.2.2⟩
  · obtain ⟨y1, y2, y3, y4⟩ := s7 i x.1 (by rw [List.getElem?_map, hx]; rfl)
    have hg := (hn 149 i _ (Or.inr (Or.inr rfl)) y2).1
    obtain ⟨r1, r2⟩ := h2 i x hx
    rw [eP]
    exact ⟨crec_fr r1 (fun k => hI _ k (Or.inl hg)) (fun k => hJ _ k hg) (fun k => hN _ k (Or.inl hg)), (hI _ 12 (Or.inl hg)).trans r2⟩
  · rw [e2, eP]; exact h3.2 i d hd
theorem RSy_fx {j : Nat} (h : RSy τ t b xs j) (e1 : eN τ' 149 = eN τ 149) (e2 : ∀ k, k < j → eN τ' 1692 (64 * t + k) = eN τ 1692 (64 * t + k)) : RSy τ' t b xs j := fun k hk => by
  obtain ⟨h1, h2⟩ := h k hk
  refine ⟨?_, h2⟩
  rw [e2 k hk, h1]
  unfold syN pN
  rw [e1]
theorem NP_fx (hn : NP sk L τ own) (e : ∀ A, (A = 141 ∨ A = 144 ∨ A = 149) → eN τ' A = eN τ A) : NP sk L τ' own := fun A i p hA hp => by
  rw [e A hA] at hp
  exact hn A i p hA hp
theorem nd_at {l : List (List Nat)} {i j : Nat} {v : List Nat} (h : l.Nodup) (h1 : l[i]? = some v) (h2 : l[j]? = some v) : i = j := by
  have e1 := idx_nd h h1
  have e2 := idx_nd h h2
  exact Option.some.inj (e1.symm.trans e2)
theorem plc_get {l : List (List Nat)} (h : w ∈ l) : l[plc w l]? = some w := by
  obtain ⟨i, hi⟩ := Option.isSome_iff_exists.mp (idx_iff.mpr h)
  have := idx_some hi
  unfold plc
  rw [hi]
  exact this
theorem CLn_sg {p : Nat} (h : CLn sk L τ tb xs od sg) (hn : NP sk L τ own) (hnd : (xs.map Prod.fst).Nodup) (hw : w ∈ xs.map Prod.fst) (hp : p = pN τ 149 (plc w (xs.map Prod.fst))) (hsg : ∀ v, v ∈ sg' ↔ v = w ∨ v ∈ sg) : CLn sk L (tI τ p 12 (bI true)) tb xs od sg' := by
  have hpl := plc_get hw
  obtain ⟨⟨s1, s2, s3, s4, s5, s6, s7⟩, h2, h3, h4⟩ := h
  obtain ⟨y1, y2, y3, y4⟩ := s7 _ _ hpl
  rw [← hp] at y2 y3 y4
  have hg := (hn 149 _ _ (Or.inr (Or.inr rfl)) y2).1
  have eP : ∀ j, pN (tI τ p 12 (bI true)) 149 j = pN τ 149 j := fun j => rfl
  refine ⟨⟨s1, s2, s3, s4, s5, (tI_ne (Or.inl (by omega))).trans s6, fun j v hv => ?_⟩, fun i x hx => ?_, ⟨(tI_ne (Or.inl (by omega))).trans h3.1, fun i d hd => h3.2 i d hd⟩, fun v hv => ?_⟩
  · obtain ⟨z1, z2, z3, z4⟩ := s7 j v hv
    exact ⟨z1, z2, z3, z4.1, z4.2.1, z4.2.2.1, (tI_ne (Or.inr (by decide))).trans z4.2.2.2⟩
  · have hx1 : (xs.map Prod.fst)[i]? = some x.1 := by rw [List.getElem?_map, hx]; rfl
    obtain ⟨z1, z2, z3, z4⟩ := s7 i x.1 hx1
    obtain ⟨r1, r2⟩ := h2 i x hx
    rw [eP]
    constructor
    · unfold crec cdf
      rw [show fI (tI τ p 12 (bI true)) (pN τ 149 i) 4 = fI τ (pN τ 149 i) 4 from tI_ne (Or.inr (by decide)), show fI (tI τ p 12 (bI true)) (pN τ 149 i) 10 = fI τ (pN τ 149 i) 10 from tI_ne (Or.inr (by decide)), show fI (tI τ p 12 (bI true)) (pN τ 149 i) 11 = fI τ (pN τ 149 i) 11 from tI_ne (Or.inr (by decide)), show fI (tI τ p 12 (bI true)) (pN τ 149 i) 5 = fI τ (pN τ 149 i) 5 from tI_ne (Or.inr (by decide)), show fI (tI τ p 12 (bI true)) (pN τ 149 i) 13 = fI τ (pN τ 149 i) 13 from tI_ne (Or.inr (by decide)), show fI (tI τ p 12 (bI true)) (pN τ 149 i) 15 = fI τ (pN τ 149 i) 15 from tI_ne (Or.inr (by decide)), show fI (tI τ p 12 (bI true)) (pN τ 149 i) 16 = fI τ (pN τ 149 i) 16 from tI_ne (Or.inr (by decide))]
      exact r1
    · by_cases ci : i = plc w (xs.map Prod.fst)
      · have ew : x.1 = w := by
          rw [ci, hpl] at hx1
          exact (Option.some.inj hx1).symm
        rw [ci, ← hp, tI_at, decide_eq_true ((hsg x.1).mpr (Or.inl ew))]
      · have ne : pN τ 149 i ≠ p := NP_ne hn (Or.inr (Or.inr rfl)) (Or.inr (Or.inr rfl)) z2 y2 (fun q => ci q.2)
        rw [tI_ne (Or.inl ne), r2]
        have hx2 : x.1 ≠ w := fun q => ci (nd_at hnd (by rw [hx1, q]) hpl)
        congr 1
        by_cases c : x.1 ∈ sg
        · rw [decide_eq_true c, decide_eq_true ((hsg x.1).mpr (Or.inr c))]
        · rw [decide_eq_false c, decide_eq_false (fun q => ((hsg x.1).mp q).elim hx2 c)]
  · rcases (hsg v).mp hv with e | e
    · rw [e]; exact hw
    · exact h4 v e
theorem frTk_p {i p k : Nat} {v : Int32} (hn : NP sk L τ own) (hp : eN τ 149 i = some p) : frTk t N τ (tI τ p k v) := by
  have h1 := (hn 149 i p (Or.inr (Or.inr rfl)) hp).1
  refine ⟨fun a y a1 _ _ _ _ _ => tI_ne (Or.inl (by omega)), fun _ _ _ _ _ => rfl, fun _ _ _ _ => rfl, fun _ => rfl, fun _ => rfl, fun _ _ _ _ _ => rfl, fun _ _ => rfl, fun _ _ => rfl, fun _ _ => rfl, fun B j q hB hq => ?_⟩
  have hB3 : B = 141 ∨ B = 144 ∨ B = 149 := by omega
  have hne : q ≠ p := NP_ne hn hB3 (Or.inr (Or.inr rfl)) hq hp (fun e => by omega)
  exact ⟨fun y => tI_ne (Or.inl hne), fun _ => rfl, fun _ => rfl⟩
end CDG
