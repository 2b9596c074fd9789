/-! what stays in a link while names come and change -/
def frLk (τ τ' : px_TT) : Prop := (∀ a k, a < 1815 → (a ≠ 148 ∨ k ≠ 2) → (a ≠ 147 ∨ k ≠ 15) → fI τ' a k = fI τ a k) ∧ (∀ a k, a < 1815 → fJ τ' a k = fJ τ a k) ∧ (∀ a k, a < 1815 → fN τ' a k = fN τ a k) ∧ (∀ a, eI τ' a = eI τ a) ∧ (∀ a, eJ τ' a = eJ τ a) ∧ (∀ a, a ≠ 149 → a ≠ 1693 → eN τ' a = eN τ a) ∧ ∀ B i p, (B = 141 ∨ B = 144) → eN τ B i = some p → (∀ k, fI τ' p k = fI τ p k) ∧ (∀ k, fJ τ' p k = fJ τ p k) ∧ ∀ k, fN τ' p k = fN τ p k
theorem frLk_refl {τ : px_TT} : frLk τ τ := ⟨fun _ _ _ _ _ => rfl, fun _ _ _ => rfl, fun _ _ _ => rfl, fun _ => rfl, fun _ => rfl, fun _ _ _ => rfl, fun _ _ _ _ _ => ⟨fun _ => rfl, fun _ => rfl, fun _ => rfl⟩⟩
theorem frLk_trans {τ τ1 τ2 : px_TT} (h : frLk τ τ1) (g : frLk τ1 τ2) : frLk τ τ2 := by
  refine ⟨fun a k h1 h2 h3 => (g.1 a k h1 h2 h3).trans (h.1 a k h1 h2 h3), fun a k h1 => (g.2.1 a k h1).trans (h.2.1 a k h1), fun a k h1 => (g.2.2.1 a k h1).trans (h.2.2.1 a k h1), fun a => (g.2.2.2.1 a).trans (h.2.2.2.1 a), fun a => (g.2.2.2.2.1 a).trans (h.2.2.2.2.1 a), fun a h1 h2 => (g.2.2.2.2.2.1 a h1 h2).trans (h.2.2.2.2.2.1 a h1 h2), fun B i p hB hp => ?_⟩
  have a1 := h.2.2.2.2.2.2 B i p hB hp
  have a2 := g.2.2.2.2.2.2 B i p hB (by rw [h.2.2.2.2.2.1 B (by omega) (by omega)]; exact hp)
  exact ⟨fun k => (a2.1 k).trans (a1.1 k), fun k => (a2.2.1 k).trans (a1.2.1 k), fun k => (a2.2.2 k).trans (a1.2.2 k)⟩
section CFM
variable {F : Nat} {c : px_CT} {sk sk' : Nat → Nat × Nat × Nat} {L L' : Nat} {τ τ' : px_TT} {own : Nat → Nat × Nat} {gs : List (List Nat × Int64)} {ws : List (List Nat)}
theorem frLk_En {j : Nat} (hn : NP sk L τ own) (f : frEn 148 149 j τ τ') : frLk τ τ' := by
  refine ⟨fun a k h1 h2 _ => f.1 a k (Or.inl h1) h2, fun a k h1 => f.2.1 a k (Or.inl h1), fun a k h1 => f.2.2.1 a k (Or.inl h1), f.2.2.2.1, f.2.2.2.2.1, fun a h1 _ => f.2.2.2.2.2.1 a h1, fun B i p hB hp => ?_⟩
  have hB3 : B = 141 ∨ B = 144 ∨ B = 149 := by omega
  have h1 := (hn B i p hB3 hp).1
  have ho : oth2 149 j τ p := Or.inr ⟨B, i, hB3, hp, fun e => by omega⟩
  exact ⟨fun k => f.1 p k ho (Or.inl (by omega)), fun k => f.2.1 p k ho, fun k => f.2.2.1 p k ho⟩
theorem frLk_X {i p : Nat} (hn : NP sk L τ own) (hp : eN τ 149 i = some p) (f : frX p τ τ') : frLk τ τ' := by
  have h1 := (hn 149 i p (Or.inr (Or.inr rfl)) hp).1
  refine ⟨fun a k h2 _ h3 => f.1 a k (by omega) h3, fun a k h2 => f.2.1 a k (by omega), fun a k h2 => f.2.2.1 a k (by omega), f.2.2.2.2.1, f.2.2.2.2.2.1, fun a _ h2 => f.2.2.2.2.2.2 a h2, fun B j q hB hq => ?_⟩
  have hB3 : B = 141 ∨ B = 144 ∨ B = 149 := by omega
  have h2 := (hn B j q hB3 hq).1
  have hne : q ≠ p := NP_ne hn hB3 (Or.inr (Or.inr rfl)) hq hp (fun e => by omega)
  exact ⟨fun k => f.1 q k hne (Or.inl (by omega)), fun k => f.2.1 q k hne, fun k => f.2.2.1 q k hne⟩
theorem GR_Lk (h : GR τ) (f : frLk τ τ') : GR τ' := GR_mv h (fun a k ha => f.2.2.1 a k (by omega)) (fun a k ha _ => f.1 a k (by omega) (Or.inl (by omega)) (Or.inl (by omega))) (f.2.2.2.2.2.1 9 (by decide) (by decide)) (f.2.2.2.2.2.1 151 (by decide) (by decide))
theorem CN_Lk {N A : Nat} (h : CN sk L τ N A ws) (e : EX sk L sk' L') (f : frLk τ τ') (hN : N = 140 ∨ N = 143) (hA : A = 141 ∨ A = 144) : CN sk' L' τ' N A ws := by
  obtain ⟨s1, s2, s3, s4, s5, s6, s7⟩ := h
  have eA : eN τ' A = eN τ A := f.2.2.2.2.2.1 A (by omega) (by omega)
  refine ⟨ob_ex s1 e, (f.2.2.1 N 0 (by omega)).trans s2, ar_ex s3 e, s4, s5, (f.1 N 2 (by omega) (Or.inl (by omega)) (Or.inl (by omega))).trans s6, fun i w hw => ?_⟩
  obtain ⟨z1, z2, z3, z4⟩ := s7 i w hw
  have hz := f.2.2.2.2.2.2 A i _ hA z2
  rw [eA]
  exact ⟨z1, z2, ob_ex z3 e, (hz.2.1 0).trans z4.1, (hz.2.1 1).trans z4.2.1, (hz.2.1 2).trans z4.2.2.1, (hz.1 3).trans z4.2.2.2⟩
theorem CG_Lk (h : CG sk L τ gs) (e : EX sk L sk' L') (f : frLk τ τ') : CG sk' L' τ' gs := by
  refine ⟨CN_Lk h.1 e f (Or.inl rfl) (Or.inl rfl), fun i x hx => ?_⟩
  have hm : (gs.map Prod.fst)[i]? = some x.1 := by rw [List.getElem?_map, hx]; rfl
  have hp : eN τ 141 i = some ((eN τ 141 i).getD 0) := (h.1.2.2.2.2.2.2 i _ hm).2.1
  have hz := f.2.2.2.2.2.2 141 i _ (Or.inl rfl) hp
  rw [f.2.2.2.2.2.1 141 (by decide) (by decide), hz.2.1 7]
  exact h.2 i x hx
theorem CW_Lk (h : CW sk L τ ws) (e : EX sk L sk' L') (f : frLk τ τ') : CW sk' L' τ' ws := CN_Lk h e f (Or.inr rfl) (Or.inr rfl)
theorem EX_trans {sk'' : Nat → Nat × Nat × Nat} {L'' : Nat} (h : EX sk L sk' L') (g : EX sk' L' sk'' L'') : EX sk L sk'' L'' := ⟨Nat.le_trans h.1 g.1, fun a ha => (g.2 a (Nat.lt_of_lt_of_le ha h.1)).trans (h.2 a ha)⟩
/-- at of the class's lists of names told -/
theorem k_natG {N A i : Nat} {v : List Nat} (h : CN sk L τ N A ws) (hi : ws[i]? = some v) : f_Names_at F c N (nI i) (cH sk L τ) = some (some ((eN τ A i).getD 0), cH sk L τ) ∧ ob sk L 5 ((eN τ A i).getD 0) ∧ isNm τ ((eN τ A i).getD 0) v ∧ okN v ∧ eN τ A i = some ((eN τ A i).getD 0) := by
  obtain ⟨s1, s2, s3, s4, s5, s6, s7⟩ := h
  obtain ⟨z1, z2, z3, z4⟩ := s7 i v hi
  have hl := (List.getElem?_eq_some_iff.mp hi).1
  refine ⟨?_, z3, z4, z1, z2⟩
  unfold f_Names_at
  rw [if_neg (show ¬ nI i < 0 from nI_nlt (b := 0) (Nat.zero_le _) (by omega)), C6g2 s1, bs, s6, if_neg (nI_ge hl (by omega)), C6r0 s1 s2, bs, c_l s3 (by decide), bs, if_neg (nI_ge (by omega) (by omega)), bs, c_aN s3 (by decide) (by omega) (by omega), bs]
  unfold f_Names_at_31 f_Names_at_44
  rw [z2]
  rfl
end CFM
