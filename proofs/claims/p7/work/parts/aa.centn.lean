/-! enterNames of the class: the loop -/
section CEN
variable {F : Nat} {c : px_CT} {sk sk' : Nat → Nat × Nat × Nat} {L L' : Nat} {τ τ' : px_TT} {tb : Nat → Nat → Nat} {q g base n ss t N : Nat} {S : Nat → Int32} {xs : px_NL} {od : List Nat} {sg : List (List Nat)} {own : Nat → Nat × Nat} {b : Nat → Nat}
theorem c_sOv {ty ci n i a : Nat} {v : Option Nat} (h : ar sk L ty n a) (hty : ty = 4 ∨ ty = 5 ∨ ty = 6) (hn : n < 2 ^ 31) (hi : i < n) (ho : ∀ p, v = some p → ob sk L ci p) : xsO (cH sk L τ) ty ci a (nI i) v = some (cH sk L (vN τ a (va_up (eN τ a) i v))) := by
  cases v with
  | some p => exact c_sO h hty hn hi (ho p rfl)
  | none =>
    have hx : xco (cH sk L τ) ci none = true := rfl
    unfold xsO
    rw [c_N h hty, bs, if_neg (fun q => q.elim (nI_in hi hn) (fun r => by rw [hx] at r; cases r)), nI_clamp (by omega)]
    congr 1
    refine cH_set _ ?_ ?_
    · unfold cell
      rw [h.1, show eN (vN τ a (va_up (eN τ a) i none)) a = va_up (eN τ a) i none from u1_eq]
      rcases hty with e | e | e <;> rw [e] <;> rfl
    · intro b hb
      exact cell_eq (fun j => rfl) (fun _ => rfl) (fun _ => rfl) rfl rfl (u1_ne hb)
theorem CLn_e (h : CLn sk L τ tb xs od sg) (hI : ∀ a k, fI τ' a k = fI τ a k) (hJ : ∀ a k, fJ τ' a k = fJ τ a k) (hN : ∀ a k, fN τ' a k = fN τ a k) (h1 : eN τ' 149 = eN τ 149) (h2 : eN τ' 1693 = eN τ 1693) : CLn sk L τ' tb xs od sg := by
  obtain ⟨s1, s2, s3, s4, s5, s6, s7⟩ := id h.1
  have eP : ∀ j, pN τ' 149 j = pN τ 149 j := fun j => by unfold pN; rw [h1]
  refine ⟨⟨s1, (hN 148 0).trans s2, s3, s4, s5, (hI 148 2).trans s6, fun j v hv => ?_⟩, fun i x hx => ?_, ⟨(hI 147 15).trans h.2.2.1.1, fun i d hd => ?_⟩, h.2.2.2⟩
  · obtain ⟨y1, y2, y3, y4⟩ := s7 j v hv
    rw [eP, h1]
    exact ⟨y1, y2, y3, (hJ _ 0).trans y4.1, (hJ _ 1).trans y4.2.1, (hJ _ 2).trans y4.2.2.1, (hI _ 3).trans y4.2.2.2⟩
  · obtain ⟨r1, r2⟩ := h.2.1 i x hx
    rw [eP]
    exact ⟨crec_fr r1 (fun k => hI _ k) (fun k => hJ _ k) (fun k => hN _ k), (hI _ 12).trans r2⟩
  · rw [eP, h2]; exact h.2.2.1.2 i d hd
theorem cS_S (h : cS sk L τ q g base n S) (e : EX sk L sk' L') (f : frSy t N τ τ') (hq : q < 138) : cS sk' L' τ' q g base n S := by
  obtain ⟨⟨⟨⟨o1, o2, o3, o4, o5, o6, o7, o8, o9, o10⟩, r2, r3, r4, r5⟩, g2, g3, g4, g5⟩, ⟨y1, y2, y3⟩, w⟩ := h
  have hI : ∀ k, fI τ' q k = fI τ q k := fun k => f.1 q k (by omega) (by omega) (Or.inl (by omega))
  have hN : ∀ k, fN τ' q k = fN τ q k := fun k => f.2.2.1 q k (by omega)
  refine ⟨⟨⟨⟨ob_ex o1 e, (hN 0).trans o2, ob_ex o3 e, (f.2.2.1 7 0 (by omega)).trans o4, ar_ex o5 e, (f.2.2.2.1 8).trans o6, (hI 5).trans o7, (hI 6).trans o8, o9, o10⟩, r2, r3, (hI 7).trans r4, (hI 8).trans r5⟩, (hN 3).trans g2, ar_ex g3 e, g4, fun j hj => by rw [f.2.2.2.1]; exact g5 j hj⟩, ⟨(hI 9).trans y1, (hI 11).trans y2, fun hy => ?_⟩, w⟩
  rw [hI, hI, hI]
  exact y3 hy
theorem GR_S (h : GR τ) (f : frSy t N τ τ') : GR τ' := GR_mv h (fun a k ha => f.2.2.1 a k (by omega)) (fun a k ha _ => f.1 a k (by omega) (by omega) (Or.inl (by omega))) (f.2.2.2.2.2.1 9 (by decide) (by decide)) (f.2.2.2.2.2.1 151 (by decide) (by decide))
theorem RSy_1 {xs' : px_NL} {j : Nat} (h : RSy τ t b xs j) (hC : CLn sk L τ tb xs od sg) (f : frSy t xs.length τ τ') (he : eN τ' 1692 = eN τ 1692) (hx : ∀ v, v ∈ xs.map Prod.fst → v ∈ xs'.map Prod.fst ∧ plc v (xs'.map Prod.fst) = plc v (xs.map Prod.fst)) : RSy τ' t b xs' j := by
  intro k hk
  obtain ⟨a1, a2⟩ := h k hk
  rw [he, a1]
  unfold syN
  by_cases c : hsN b k = true
  · rw [if_pos c, if_pos c]
    have hm := a2 c
    obtain ⟨m1, m2⟩ := hx _ hm
    refine ⟨?_, fun _ => m1⟩
    rw [m2]
    have hl := plc_lt hm
    obtain ⟨y1, y2, y3, y4⟩ := hC.1.2.2.2.2.2.2 _ _ (List.getElem?_eq_getElem hl)
    rw [List.length_map] at hl
    have := (f.2.2.2.2.2.2.2 149 _ _ (Or.inr (Or.inr ⟨rfl, hl⟩)) y2).1
    congr 1
    show pN τ 149 _ = (eN τ' 149 _).getD 0
    rw [this]
    rfl
  · rw [if_neg c, if_neg c]
    exact ⟨rfl, fun q => absurd q c⟩
theorem RSy_v {j : Nat} {v : Option Nat} (h : RSy τ t b xs j) (hv : v = syN τ b xs j) (hm : hsN b j = true → yT b j ∈ xs.map Prod.fst) : RSy (vN τ 1692 (va_up (eN τ 1692) (64 * t + j) v)) t b xs (j + 1) := by
  have hA : eN (vN τ 1692 (va_up (eN τ 1692) (64 * t + j) v)) 1692 = va_up (eN τ 1692) (64 * t + j) v := (u1_eq : u1 τ.2.2.2.2.2 1692 (va_up (eN τ 1692) (64 * t + j) v) 1692 = _)
  have hP : ∀ i, pN (vN τ 1692 (va_up (eN τ 1692) (64 * t + j) v)) 149 i = pN τ 149 i := fun i => by
    have hE : ∀ a, a ≠ 1692 → eN (vN τ 1692 (va_up (eN τ 1692) (64 * t + j) v)) a = eN τ a := fun a h => u1_ne h
    unfold pN
    rw [hE 149 (by decide)]
  have hsy : ∀ k, syN (vN τ 1692 (va_up (eN τ 1692) (64 * t + j) v)) b xs k = syN τ b xs k := fun k => by unfold syN; rw [hP]
  intro k hk
  rw [hA, hsy]
  by_cases c : k = j
  · rw [c, va_up_a, hv]
    exact ⟨rfl, hm⟩
  · rw [va_up_n (by omega)]
    exact h k (by omega)
theorem k_en_48 {j : Nat} {v : Option Nat} {k2 : Nat → Int32 → Option Nat → Int32 → px_H → Option (Unit × px_H)} (hS : GS sk L) (hR : GR τ) (ht : t < 64) (hj : j < 64) (ho : ∀ p, v = some p → ob sk L 5 p) : f_Link_enterNames_48 F c k2 147 (nI t) (some q) (nI j) v (cH sk L τ) = k2 147 (nI t) (some q) (nI (j + 1)) (cH sk L (vN τ 1692 (va_up (eN τ 1692) (64 * t + j) v))) := by
  unfold f_Link_enterNames_48
  rw [C3r8 (G147 hS) (GR_r (v := 1692) hR (by decide)), bs, pk_mul, nI_add, show t * 64 + j = 64 * t + j by omega, c_sOv (G1692 hS) (by decide) (by decide) (by omega) ho, bs, nI_add]
/-- the step's end: the row of symbol j is written -/
theorem k_en_v {j : Nat} {v : Option Nat} (hR : GR τ) (hn : NP sk L τ own) (hC : CLn sk L τ tb xs od sg) (hs : cS sk L τ q g base n S) (hj : j < 64) (h : RSy τ t b xs j) (hv : v = syN τ b xs j) (hm : hsN b j = true → yT b j ∈ xs.map Prod.fst) (τ2 : px_TT) (e2 : τ2 = vN τ 1692 (va_up (eN τ 1692) (64 * t + j) v)) : GR τ2 ∧ NP sk L τ2 own ∧ CLn sk L τ2 tb xs od sg ∧ cS sk L τ2 q g base n S ∧ RSy τ2 t b xs (j + 1) ∧ frSy t N τ τ2 := by
  have hE : ∀ a, a ≠ 1692 → eN (vN τ 1692 (va_up (eN τ 1692) (64 * t + j) v)) a = eN τ a := fun a h => u1_ne h
  have f : frSy t N τ τ2 := by rw [e2]; exact frSy_v hj
  refine ⟨GR_S hR f, fun A i p hA hp => hn A i p hA (by rw [e2, hE A (by omega)] at hp; exact hp), ?_, ?_, by rw [e2]; exact RSy_v h hv hm, f⟩
  · rw [e2]
    exact CLn_e hC (fun _ _ => rfl) (fun _ _ => rfl) (fun _ _ => rfl) (hE 149 (by decide)) (hE 1693 (by decide))
  · rw [e2]; exact hs
end CEN
