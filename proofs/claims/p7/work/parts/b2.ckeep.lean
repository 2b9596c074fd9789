/-! what stays: names and parts behind the taking -/
def crem (tb : Nat → Nat → Nat) (τ : px_TT) (p : Nat) (r : px_NR) : Prop := fI τ p 4 = nI (if r.1 = 4 then 3 else r.1) ∧ (∃ a b, fI τ p 10 = bI a ∧ fI τ p 11 = bI b ∧ (a || b) = r.2.1) ∧ cdf tb τ p r
def CLm (sk : Nat → Nat × Nat × Nat) (L : Nat) (τ : px_TT) (tb : Nat → Nat → Nat) (xs : px_NL) (od : List Nat) (rn : Nat → Bool) : Prop := isNs sk L τ 148 149 4128 (xs.map Prod.fst) (pN τ 149) ∧ (∀ (i : Nat) (x : List Nat × px_NR), xs[i]? = some x → crem tb τ (pN τ 149 i) x.2 ∧ (x.2.1 = 2 → fI τ (pN τ 149 i) 13 = bI (rn i))) ∧ (fI τ 147 15 = nI od.length ∧ ∀ (i d : Nat), od[i]? = some d → d < xs.length ∧ eN τ 1693 i = some (pN τ 149 d))
def isPe (τ : px_TT) (p t s : Nat) (b : Nat → Nat) (base u : Nat) (dr st : Bool) : Prop := (fI τ p 0 = nI t ∧ fI τ p 1 = nI (u / 8) ∧ fI τ p 2 = nI (u % 8)) ∧ fI τ p 3 = nI s ∧ fI τ p 4 = (if kpB b s = true then nI (oG b s) else Int32.ofInt (-1)) ∧ fI τ p 8 = nI (if dr = true then 2 else if kpB b s = true then 1 else 0) ∧ fI τ p 9 = bI st ∧ (kpB b s = true → fI τ p 5 = nI (oZ b s) ∧ fI τ p 6 = nI (if oA b s < 1 then 1 else oA b s) ∧ fI τ p 7 = nI (base + oP b s)) ∧ fI τ p 10 = bI ((kpB b s && oStr b s) && !dr)
def CKe (sk : Nat → Nat × Nat × Nat) (L : Nat) (own : Nat → Nat × Nat) (τ : px_TT) (fs : px_FS) (s : px_TK) (xs : px_NL) (ST rn : Nat → Bool) : Prop := NP sk L τ own ∧ CLm sk L τ (tB fs s.2.2.1) xs s.1.2.2.1 rn ∧ fI τ 147 14 = nI s.2.2.1.length ∧ (∀ t q, s.2.2.1[t]? = some q → (∀ i, i < 24 → isPe τ (152 + (24 * t + i)) t i (tB fs s.2.2.1 t) (bsO fs q) q (s.2.1.1 (24 * t + i)) (ST (24 * t + i))) ∧ RSy τ t (tB fs s.2.2.1 t) xs 64 ∧ eN τ 1689 t = some (10 + 2 * q))
/-- after the taking, names and parts as they stay -/
def TKe (sk : Nat → Nat × Nat × Nat) (L : Nat) (own : Nat → Nat × Nat) (τ : px_TT) (fs : px_FS) (s : px_TK) (xs : px_NL) (ST rn : Nat → Bool) : Prop := GS sk L ∧ GR τ ∧ CF sk L τ fs ∧ CKe sk L own τ fs s xs ST rn ∧ WK fs s ∧ AL (fun x => x.2.1 ≤ 4) xs ∧ xs.map Prod.fst = s.1.2.1.map Prod.fst
/-- no name has a slot -/
def Z15 (τ : px_TT) (xs : px_NL) : Prop := ∀ i, i < xs.length → fI τ (pN τ 149 i) 15 = nI 0 ∧ fI τ (pN τ 149 i) 16 = nI 0
section CKP
variable {sk sk' : Nat → Nat × Nat × Nat} {L L' : Nat} {τ τ' : px_TT} {own : Nat → Nat × Nat} {fs : px_FS} {s : px_TK} {xs : px_NL} {ST ST' rn rn' : Nat → Bool} {tb : Nat → Nat → Nat} {od : List Nat}
theorem TKe_of (h : TKo sk L own τ fs s xs) : TKe sk L own τ fs s xs (fun x => kpB (tB fs s.2.2.1 (x / 24)) (x % 24) && !s.2.1.1 x) (fun _ => true) := by
  obtain ⟨h1, h2, h3, ⟨k1, k2, ⟨k3, k4⟩, k5, k6, k7, k8⟩, h5, h6, h7, h8⟩ := h
  refine ⟨h1, h2, h3, ⟨k1, ⟨k2.1, fun i x hx => ?_, k2.2.2.1⟩, k3, fun t q hq => ?_⟩, h5, h6, h7⟩
  · obtain ⟨⟨r1, r2, r3, r4⟩, r5⟩ := k2.2.1 i x hx
    exact ⟨⟨r1, r2, r3⟩, fun e => r4.1 (Or.inr (Or.inl e))⟩
  · obtain ⟨r1, r2, r3⟩ := k5 t q hq
    refine ⟨fun i hi => ?_, r2, r3⟩
    have := r1 i hi
    show isPe τ _ t i _ _ _ _ (kpB (tB fs s.2.2.1 ((24 * t + i) / 24)) ((24 * t + i) % 24) && !s.2.1.1 (24 * t + i))
    rw [show (24 * t + i) / 24 = t by omega, show (24 * t + i) % 24 = i by omega]
    exact this
theorem Z15_of {sg : List (List Nat)} (h : CLn sk L τ tb xs od sg) : Z15 τ xs := fun i hi => (h.2.1 i _ (List.getElem?_eq_getElem hi)).1.2.2.2.2
theorem CLm_at {i : Nat} {x : List Nat × px_NR} (h : CLm sk L τ tb xs od rn) (hx : xs[i]? = some x) : okN x.1 ∧ eN τ 149 i = some (pN τ 149 i) ∧ ob sk L 5 (pN τ 149 i) ∧ isNm τ (pN τ 149 i) x.1 := h.1.2.2.2.2.2.2 i x.1 (by rw [List.getElem?_map, hx]; rfl)
theorem CLm_fx (h : CLm sk L τ tb xs od rn) (e : EX sk L sk' L') (hI : ∀ i, i < xs.length → ∀ k, (k = 3 ∨ k = 4 ∨ k = 5 ∨ k = 10 ∨ k = 11) → fI τ' (pN τ 149 i) k = fI τ (pN τ 149 i) k) (h13 : ∀ (i : Nat) (x : List Nat × px_NR), xs[i]? = some x → x.2.1 = 2 → fI τ' (pN τ 149 i) 13 = bI (rn' i)) (hJ : ∀ i, i < xs.length → ∀ k, (k ≤ 2 ∨ k = 7 ∨ k = 8) → fJ τ' (pN τ 149 i) k = fJ τ (pN τ 149 i) k) (hN : ∀ i, i < xs.length → fN τ' (pN τ 149 i) 6 = fN τ (pN τ 149 i) 6) (h148 : fN τ' 148 0 = fN τ 148 0 ∧ fI τ' 148 2 = fI τ 148 2) (h15 : fI τ' 147 15 = fI τ 147 15) (e1 : eN τ' 149 = eN τ 149) (e2 : eN τ' 1693 = eN τ 1693) : CLm sk' L' τ' tb xs od rn' := by
  obtain ⟨⟨s1, s2, s3, s4, s5, s6, s7⟩, h2, h3⟩ := h
  have eP : ∀ j, pN τ' 149 j = pN τ 149 j := fun j => by unfold pN; rw [e1]
  refine ⟨⟨ob_ex s1 e, h148.1.trans s2, ar_ex s3 e, s4, s5, h148.2.trans s6, fun j v hv => ?_⟩, fun i x hx => ?_, h15.trans h3.1, fun i d hd => ?_⟩
  · have hj : j < xs.length := by have := (List.getElem?_eq_some_iff.mp hv).1; rw [List.length_map] at this; exact this
    obtain ⟨y1, y2, y3, y4⟩ := s7 j v hv
    rw [eP, e1]
    exact ⟨y1, y2, ob_ex y3 e, (hJ j hj 0 (by omega)).trans y4.1, (hJ j hj 1 (by omega)).trans y4.2.1, (hJ j hj 2 (by omega)).trans y4.2.2.1, (hI j hj 3 (by omega)).trans y4.2.2.2⟩
  · have hj := (List.getElem?_eq_some_iff.mp hx).1
    obtain ⟨r1, r2⟩ := h2 i x hx
    rw [eP]
    refine ⟨?_, h13 i x hx⟩
    unfold crem cdf
    rw [hI i hj 4 (by omega), hI i hj 5 (by omega), hI i hj 10 (by omega), hI i hj 11 (by omega), hJ i hj 7 (by omega), hJ i hj 8 (by omega), hN i hj]
    exact r1
  · rw [e2, eP]; exact h3.2 i d hd
theorem isPe_fx {p t i base u : Nat} {b : Nat → Nat} {dr st st' : Bool} (h : isPe τ p t i b base u dr st) (hI : ∀ k, k ≤ 10 → k ≠ 9 → fI τ' p k = fI τ p k) (h9 : fI τ' p 9 = bI st') : isPe τ' p t i b base u dr st' := by
  unfold isPe at h ⊢
  rw [hI 0 (by decide) (by decide), hI 1 (by decide) (by decide), hI 2 (by decide) (by decide), hI 3 (by decide) (by decide), hI 4 (by decide) (by decide), hI 8 (by decide) (by decide), hI 5 (by decide) (by decide), hI 6 (by decide) (by decide), hI 7 (by decide) (by decide), hI 10 (by decide) (by decide)]
  exact ⟨h.1, h.2.1, h.2.2.1, h.2.2.2.1, h9, h.2.2.2.2.2⟩
end CKP
