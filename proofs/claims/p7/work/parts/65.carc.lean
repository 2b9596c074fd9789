/-! the class's archives -/
/-- a boolean -/
def isZ (v : Int32) : Prop := ∃ b, v = bI b
/-- as it was, or 0 -/
def zKl (τ τ' : px_TT) (a k : Nat) : Prop := fI τ' a k = fI τ a k ∨ fI τ' a k = nI 0
theorem zK_t {τ τ' τ'' : px_TT} {a k : Nat} (h1 : zKl τ τ' a k) (h2 : zKl τ' τ'' a k) : zKl τ τ'' a k := by
  rcases h2 with e | e
  · rcases h1 with d | d
    · exact Or.inl (e.trans d)
    · exact Or.inr (e.trans d)
  · exact Or.inr e
theorem zK_e {τ τ' : px_TT} {a k : Nat} (h : fI τ' a k = fI τ a k) : zKl τ τ' a k := Or.inl h
theorem zK_z {τ τ' : px_TT} {a : Nat} (h : zKl τ τ' a 15) (hz : isZ (fI τ a 15)) : isZ (fI τ' a 15) := by
  rcases h with e | e
  · rw [e]; exact hz
  · exact ⟨false, e⟩
def frF (f : Nat) (τ τ' : px_TT) : Prop := (∀ a k, (∀ j, j < 8 → a ≠ 10 + 2 * (8 * f + j)) → fI τ' a k = fI τ a k) ∧ (∀ a k, k < 4 → fI τ' a k = fI τ a k) ∧ (∀ a k, fJ τ' a k = fJ τ a k) ∧ (∀ a k, fN τ' a k = fN τ a k) ∧ (∀ a, (∀ j, j < 8 → a ≠ 11 + 2 * (8 * f + j)) → a ≠ 139 → eI τ' a = eI τ a) ∧ (∀ a, eJ τ' a = eJ τ a) ∧ (∀ a, eN τ' a = eN τ a) ∧ ∀ a, zKl τ τ' a 15 ∧ zKl τ τ' a 16
theorem frF_refl (f : Nat) (τ : px_TT) : frF f τ τ := ⟨fun _ _ _ => rfl, fun _ _ _ => rfl, fun _ _ => rfl, fun _ _ => rfl, fun _ _ _ => rfl, fun _ => rfl, fun _ => rfl, fun _ => ⟨Or.inl rfl, Or.inl rfl⟩⟩
theorem frF_trans {f : Nat} {τ τ' τ'' : px_TT} (h1 : frF f τ τ') (h2 : frF f τ' τ'') : frF f τ τ'' := ⟨fun a k h => (h2.1 a k h).trans (h1.1 a k h), fun a k h => (h2.2.1 a k h).trans (h1.2.1 a k h), fun a k => (h2.2.2.1 a k).trans (h1.2.2.1 a k), fun a k => (h2.2.2.2.1 a k).trans (h1.2.2.2.1 a k), fun a h h' => (h2.2.2.2.2.1 a h h').trans (h1.2.2.2.2.1 a h h'), fun a => (h2.2.2.2.2.2.1 a).trans (h1.2.2.2.2.2.1 a), fun a => (h2.2.2.2.2.2.2.1 a).trans (h1.2.2.2.2.2.2.1 a), fun a => ⟨zK_t (h1.2.2.2.2.2.2.2 a).1 (h2.2.2.2.2.2.2.2 a).1, zK_t (h1.2.2.2.2.2.2.2 a).2 (h2.2.2.2.2.2.2.2 a).2⟩⟩
theorem frO_F {f k : Nat} {τ τ' : px_TT} (hk : k < 8) (h : frO (10 + 2 * (8 * f + k)) (11 + 2 * (8 * f + k)) τ τ') : frF f τ τ' := ⟨fun a j ha => h.1 a j (Or.inl (ha k hk)), fun a j hj => h.1 a j (by omega), h.2.1, h.2.2.1, fun a ha h139 => h.2.2.2.1 a (ha k hk) h139, h.2.2.2.2.1, h.2.2.2.2.2, fun a => ⟨Or.inl (h.1 a 15 (by omega)), Or.inl (h.1 a 16 (by omega))⟩⟩
theorem opn_F {f k kind base m : Nat} {τ : px_TT} (hk : k < 8) : frF f τ (opn τ (10 + 2 * (8 * f + k)) kind base m) := ⟨fun a j ha => opn_ne (Or.inl (ha k hk)), fun a j hj => opn_ne (by omega), fun _ _ => rfl, fun _ _ => rfl, fun _ _ _ => rfl, fun _ => rfl, fun _ => rfl, fun a => by
    by_cases e : a = 10 + 2 * (8 * f + k)
    · rw [e]
      exact ⟨Or.inr opn_at.2.2.2.2.2.1, Or.inr opn_at.2.2.2.2.2.2⟩
    · exact ⟨Or.inl (opn_ne (Or.inl e)), Or.inl (opn_ne (Or.inl e))⟩⟩
theorem GR_F {f : Nat} {τ τ' : px_TT} (h : GR τ) (hf : frF f τ τ') : GR τ' := ⟨fun x hx => (hf.2.2.2.1 _ _).trans (h.1 x hx), fun i hi => ⟨(hf.2.2.2.1 _ _).trans (h.2.1 i hi).1, (hf.2.2.2.1 _ _).trans (h.2.1 i hi).2.1, by rw [hf.2.2.2.2.2.2.1]; exact (h.2.1 i hi).2.2.1, (hf.2.1 _ _ (by decide)).trans (h.2.1 i hi).2.2.2.1, (hf.2.1 _ _ (by decide)).trans (h.2.1 i hi).2.2.2.2⟩, fun i hi => by rw [hf.2.2.2.2.2.2.1]; exact h.2.2 i hi⟩
theorem CTp_F {f n : Nat} {b : Nat → Nat} {τ τ' : px_TT} (h : CTp τ n b) (hf : frF f τ τ') : CTp τ' n b := by
  have e : eI τ' 2 = eI τ 2 := hf.2.2.2.2.1 2 (by omega) (by decide)
  refine ⟨(hf.1 1 1 (by omega)).trans h.1, h.2.1, ?_, ?_⟩ <;> rw [e]
  · exact h.2.2.1
  · exact h.2.2.2
/-- the kind of a member -/
def mkd (ar z : Bool) : Nat := if ar = true then (if z = true then 3 else 2) else 1
/-- members k .. of file f have been opened -/
def mO (τ : px_TT) (f base : Nat) (ar : Bool) : Nat → List (Nat × Nat × Bool) → Prop
  | _, [] => True
  | k, x :: l => (fI τ (10 + 2 * (8 * f + k)) 4 = nI (mkd ar x.2.2) ∧ fI τ (10 + 2 * (8 * f + k)) 5 = nI (base + x.1) ∧ fI τ (10 + 2 * (8 * f + k)) 6 = nI x.2.1 ∧ fI τ (10 + 2 * (8 * f + k)) 9 = Int32.ofInt (-1) ∧ fI τ (10 + 2 * (8 * f + k)) 11 = nI 0 ∧ fI τ (10 + 2 * (8 * f + k)) 15 = bI false ∧ fI τ (10 + 2 * (8 * f + k)) 16 = nI 0) ∧ mO τ f base ar (k + 1) l
theorem mO_eq {τ τ' : px_TT} {f base : Nat} {ar : Bool} : ∀ (l : List (Nat × Nat × Bool)) (k : Nat), (∀ j, k ≤ j → j < k + l.length → ∀ i, fI τ' (10 + 2 * (8 * f + j)) i = fI τ (10 + 2 * (8 * f + j)) i) → mO τ f base ar k l → mO τ' f base ar k l
  | [], _, _, _ => trivial
  | x :: l, k, he, h => by
    rw [List.length_cons] at he
    unfold mO at h ⊢
    have e := he k (Nat.le_refl _) (by omega)
    rw [e, e, e, e, e, e, e]
    exact ⟨h.1, mO_eq l (k + 1) (fun j h1 h2 => he j (by omega) (by omega)) h.2⟩
section CAR
variable {F : Nat} {c : px_CT} {sk : Nat → Nat × Nat × Nat} {L : Nat} {n fl base : Nat} {b : Nat → Nat}
theorem k_rA_8 (hS : GS sk L) (hF : 10 < F) (hfl : fl < 8) (hbase : base + n ≤ 65536) : ∀ (d k p f : Nat) (τ : px_TT), GR τ → CTp τ n b → d + k = 8 → p ≤ n → d < f → ∃ τ', frF fl τ τ' ∧ f_H_readArchive_8 F c f 0 (nI (8 * fl)) (nI base) (nI p) (nI k) (cH sk L τ) = (if (ams b n d p).isSome = true then f_H_readArchive_122 F c F 0 (nI (8 * fl)) (nI 0) (nI 0) (cH sk L τ') else some (nI 8, cH sk L τ')) ∧ ∀ l, ams b n d p = some l → mO τ' fl base true k l ∧ ∀ j, (j < k ∨ k + l.length ≤ j) → j < 8 → ∀ i, fI τ' (10 + 2 * (8 * fl + j)) i = fI τ (10 + 2 * (8 * fl + j)) i := by
  intro d
  induction d with
  | zero =>
    intro k p f τ hR ht hk hp hf
    obtain ⟨f, rfl⟩ : ∃ g, f = g + 1 := ⟨f - 1, by omega⟩
    have hn := ht.2.1
    refine ⟨τ, frF_refl _ _, ?_, ?_⟩
    · unfold f_H_readArchive_8 f_H_readArchive_102
      rw [if_pos (nI_le (by omega) (by omega)), C0r0 (G0 hS) (R0_0 hR), bs, C10g1 (G1 hS), bs, ht.1]
      simp only [nI_eq (show p < 2 ^ 31 by omega) (show n < 2 ^ 31 by omega)]
      by_cases c1 : n ≤ p
      · rw [show ams b n 0 p = some [] from if_pos c1, if_pos (show p = n by omega)]
        rfl
      · rw [show ams b n 0 p = none from if_neg c1, if_neg (show ¬ p = n by omega)]
        rfl
    · intro l hl
      by_cases c1 : n ≤ p
      · rw [show ams b n 0 p = some [] from if_pos c1] at hl
        cases hl
        exact ⟨trivial, fun _ _ _ _ => rfl⟩
      · rw [show ams b n 0 p = none from if_neg c1] at hl
        cases hl
  | succ d ih =>
    intro k p f τ hR ht hk hp hf
    obtain ⟨f, rfl⟩ : ∃ g, f = g + 1 := ⟨f - 1, by omega⟩
    have hn := ht.2.1
    unfold f_H_readArchive_8
    rw [if_neg (nI_ge (by omega) (by omega)), C0r0 (G0 hS) (R0_0 hR), bs, C10g1 (G1 hS), bs, ht.1]
    by_cases c1 : n ≤ p
    · have e : ams b n (d + 1) p = some [] := if_pos c1
      refine ⟨τ, frF_refl _ _, ?_, ?_⟩
      · rw [e, if_pos (nI_le c1 (by omega))]
        unfold f_H_readArchive_102
        rw [C0r0 (G0 hS) (R0_0 hR), bs, C10g1 (G1 hS), bs, ht.1, if_pos (show nI p = nI n by rw [show p = n by omega])]
        rfl
      · intro l hl
        rw [e] at hl
        cases hl
        exact ⟨trivial, fun _ _ _ _ => rfl⟩
    · rw [if_neg (nI_ge (by omega) (by omega)), c_o (G0 hS), bs, k_memberSize hS hR ht hF hp, xb_mk]
      by_cases c2 : aOK b n p = true
      · have hV := (aOK_p c2).2.2.2.2.1
        have hV2 := (aOK_p c2).2.2.2.2.2
        have hX : aX b p ≤ n := by unfold aX; omega
        have hq := G_of hS (show 8 * fl + k < 64 by omega)
        have e9 : eN τ 9 (8 * fl + k) = some (10 + 2 * (8 * fl + k)) := (hR.2.1 (8 * fl + k) (by omega)).2.2.1
        have hb := ct_lt ht p
        rw [if_pos c2, if_pos (show (0 : Int32) ≤ nI (aV b p) from nI_pos' (by omega)), C0r0 (G0 hS) (R0_0 hR), bs, c_o (G1 hS), bs, k_tapeAt hS hR ht (by omega), xb_mk]
        have hkd : ∀ (G : Int32 → Option (Int32 × px_H)), (if nI (b p) = nI 47 then G (nI 3) else G (nI 2)) = G (nI (mkd true (decide (b p = 47)))) := by
          intro G
          by_cases e : b p = 47
          · rw [if_pos (by rw [e]), decide_eq_true e]; rfl
          · rw [if_neg (by rw [nI_eq (by omega) (by decide)]; exact e), decide_eq_false e]; rfl
        rw [hkd (fun z => f_H_readArchive_59 F c (f_H_readArchive_8 F c f) 0 (nI (8 * fl)) (nI base) (nI p) (nI k) (nI (aV b p)) z (cH sk L τ))]
        unfold f_H_readArchive_59
        rw [C0r4 (G0 hS) (R0_4 hR), bs, nI_add, c_aN (G9 hS) (Or.inl rfl) (by decide) (by omega), bs, e9, bs, c_o hq, bs, nI_add, nI_add, k_open hq, xb_mk, nI_add, show nI (aV b p) &&& nI 1 = nI (aV b p % 2) from pk_andN (by omega) 1 (by decide), nI_add, nI_add, nI_add]
        have eX : p + (60 + aV b p + aV b p % 2) = aX b p := by unfold aX; omega
        rw [eX]
        have frq : frF fl τ (opn τ (10 + 2 * (8 * fl + k)) (mkd true (decide (b p = 47))) (base + p + 60) (aV b p)) := opn_F (by omega)
        obtain ⟨τ', h1, h2, h3⟩ := ih (k + 1) (aX b p) f _ (GR_F hR frq) (CTp_F ht frq) (by omega) hX (by omega)
        have eA : ams b n (d + 1) p = (ams b n d (aX b p)).map (fun l => (p + 60, aV b p, decide (b p = 47)) :: l) := by rw [ams_s, if_neg c1, if_pos c2]
        refine ⟨τ', frF_trans frq h1, ?_, ?_⟩
        · rw [h2, eA, Option.isSome_map]
        · intro l hl
          rw [eA] at hl
          obtain ⟨l', e1, e2⟩ := Option.map_eq_some_iff.mp hl
          subst e2
          obtain ⟨h4, h5⟩ := h3 l' e1
          rw [List.length_cons]
          refine ⟨⟨?_, h4⟩, ?_⟩
          · have e := h5 k (Or.inl (by omega)) (by omega)
            rw [e, e, e, e, e, e, e]
            have o := opn_at (τ := τ) (q := 10 + 2 * (8 * fl + k)) (kind := mkd true (decide (b p = 47))) (base := base + p + 60) (m := aV b p)
            refine ⟨o.1, ?_, o.2.2.1, o.2.2.2.1, o.2.2.2.2.1, o.2.2.2.2.2.1, o.2.2.2.2.2.2⟩
            rw [o.2.1]
            rw [Nat.add_assoc]
          · intro j hj hj8 i
            rw [h5 j (by omega) hj8 i]
            exact opn_ne (Or.inl (by omega))
      · have e : ams b n (d + 1) p = none := by rw [ams_s, if_neg c1, if_neg c2]
        refine ⟨τ, frF_refl _ _, ?_, ?_⟩
        · rw [if_neg c2, if_neg (show ¬ (0 : Int32) ≤ Int32.ofInt (-1) by decide), e]
          rfl
        · intro l hl
          rw [e] at hl
          cases hl
theorem cD_eq {τ τ' : px_TT} {q g o m : Nat} {S S' : Nat → Int32} (h : cD sk L τ q g o m S) (hI : ∀ i, i ≠ 4 → i ≠ 15 → i ≠ 16 → fI τ' q i = fI τ q i) (hN : ∀ a k, fN τ' a k = fN τ a k) (hg : eI τ' g = eI τ g) (h8 : eI τ' 8 = S') (hc : cb S' o m = cb S o m) (hB : ∀ k, isB (S' k)) : cD sk L τ' q g o m S' := by
  obtain ⟨⟨⟨⟨⟨o1, o2, o3, o4, o5, o6, o7, o8, o9, o10⟩, r2, r3, r4, r5⟩, g2, g3, g4, g5⟩, ⟨y1, y2, y3⟩, w⟩, st, er⟩ := h
  refine ⟨⟨⟨⟨⟨o1, (hN q 0).trans o2, o3, (hN 7 0).trans o4, o5, h8, (hI 5 (by decide) (by decide) (by decide)).trans o7, (hI 6 (by decide) (by decide) (by decide)).trans o8, o9, hB⟩, ?_, ?_, ?_, ?_⟩, (hN q 3).trans g2, g3, g4, ?_⟩, ⟨?_, ?_, ?_⟩, ?_⟩, ?_, ?_⟩
  · unfold rk at r2 ⊢
    rw [hc]; exact r2
  · rw [hc]; exact r3
  · rw [hc, hI 7 (by decide) (by decide) (by decide)]; exact r4
  · rw [hc, hI 8 (by decide) (by decide) (by decide)]; exact r5
  · rw [hc, hg]; exact g5
  · rw [hc, hI 9 (by decide) (by decide) (by decide)]; exact y1
  · rw [hc, hI 11 (by decide) (by decide) (by decide)]; exact y2
  · rw [hc, hI 10 (by decide) (by decide) (by decide), hI 12 (by decide) (by decide) (by decide), hI 13 (by decide) (by decide) (by decide)]; exact y3
  · rw [hc]; exact w
  · rw [hc, hI 14 (by decide) (by decide) (by decide)]; exact st
  · rw [hc]; exact er
/-- members k .. of file f have been read -/
def mD (sk : Nat → Nat × Nat × Nat) (L : Nat) (τ : px_TT) (f base : Nat) (ar : Bool) (S : Nat → Int32) : Nat → List (Nat × Nat × Bool) → Prop
  | k, [] => ∀ j, k ≤ j → j < 8 → fI τ (10 + 2 * (8 * f + j)) 4 = nI 0
  | k, x :: l => (fI τ (10 + 2 * (8 * f + k)) 4 = nI (mkd ar x.2.2) ∧ fI τ (10 + 2 * (8 * f + k)) 5 = nI (base + x.1) ∧ fI τ (10 + 2 * (8 * f + k)) 6 = nI x.2.1 ∧ (x.2.2 = false → cD sk L τ (10 + 2 * (8 * f + k)) (11 + 2 * (8 * f + k)) (base + x.1) x.2.1 S)) ∧ mD sk L τ f base ar S (k + 1) l
theorem k_rA_122 {S : Nat → Int32} {ss : Nat} (hc : KT c) (hS : GS sk L) (hF : 65536 < F) (hfl : fl < 8) (hn : n ≤ 8192) (hB : ∀ k, isB (S k)) (hcb : cb S base n = b) (hss : base + n ≤ ss) (hss2 : ss ≤ 65536) : ∀ (l : List (Nat × Nat × Bool)) (k f : Nat) (τ : px_TT), GR τ → eI τ 8 = S → fI τ 7 1 = nI ss → k + l.length ≤ 8 → mO τ fl base true k l → (∀ j, k + l.length ≤ j → j < 8 → fI τ (10 + 2 * (8 * fl + j)) 4 = nI 0) → (∀ x, x ∈ l → x.1 + x.2.1 ≤ n) → 8 - k + 1 < f → ∃ τ', frF fl τ τ' ∧ f_H_readArchive_122 F c f 0 (nI (8 * fl)) (nI 0) (nI k) (cH sk L τ) = some (nI (eMem b l), cH sk L τ') ∧ (∀ j, j < k → (∀ i, fI τ' (10 + 2 * (8 * fl + j)) i = fI τ (10 + 2 * (8 * fl + j)) i) ∧ eI τ' (11 + 2 * (8 * fl + j)) = eI τ (11 + 2 * (8 * fl + j))) ∧ (eMem b l = 0 → mD sk L τ' fl base true S k l) := by
  intro l
  induction l with
  | nil =>
    intro k f τ hR h8 h7 hk hO hz hx hf
    rw [List.length_nil, Nat.add_zero] at hk hz
    have key : ∀ (d j g : Nat), d + j = 8 → k ≤ j → d < g → f_H_readArchive_122 F c g 0 (nI (8 * fl)) (nI 0) (nI j) (cH sk L τ) = some (nI 0, cH sk L τ) := by
      intro d
      induction d with
      | zero =>
        intro j g hj hkj hg
        obtain ⟨g, rfl⟩ : ∃ x, g = x + 1 := ⟨g - 1, by omega⟩
        unfold f_H_readArchive_122
        rw [if_pos (nI_le (by omega) (by omega))]
        rfl
      | succ d ih =>
        intro j g hj hkj hg
        obtain ⟨g, rfl⟩ : ∃ x, g = x + 1 := ⟨g - 1, by omega⟩
        have e9 : eN τ 9 (8 * fl + j) = some (10 + 2 * (8 * fl + j)) := (hR.2.1 (8 * fl + j) (by omega)).2.2.1
        unfold f_H_readArchive_122
        rw [if_neg (nI_ge (by omega) (by omega)), if_pos (show nI 0 = 0 from rfl), C0r4 (G0 hS) (R0_4 hR), bs, nI_add, c_aN (G9 hS) (Or.inl rfl) (by decide) (by omega), bs, e9, bs, C7g4 (G_of hS (by omega)), bs, hz j hkj (by omega), if_neg (show ¬ nI 0 = nI 2 by decide), f_H_readArchive_167, nI_add]
        exact ih (j + 1) g (by omega) (by omega) (by omega)
    refine ⟨τ, frF_refl _ _, key (8 - k) k f (by omega) (Nat.le_refl _) (by omega), fun _ _ => ⟨fun _ => rfl, rfl⟩, fun _ => hz⟩
  | cons x l ih =>
    intro k f τ hR h8 h7 hk hO hz hx hf
    rw [List.length_cons] at hk hz
    obtain ⟨f, rfl⟩ : ∃ g, f = g + 1 := ⟨f - 1, by omega⟩
    unfold mO at hO
    obtain ⟨⟨m4, m5, m6, m9, m11, m15, m16⟩, hO'⟩ := hO
    have hx1 := hx x (List.mem_cons_self ..)
    have e9 : eN τ 9 (8 * fl + k) = some (10 + 2 * (8 * fl + k)) := (hR.2.1 (8 * fl + k) (by omega)).2.2.1
    have hq := G_of hS (show 8 * fl + k < 64 by omega)
    have hgq := G_og hS (show 8 * fl + k < 64 by omega)
    unfold f_H_readArchive_122
    rw [if_neg (nI_ge (by omega) (by omega)), if_pos (show nI 0 = 0 from rfl), C0r4 (G0 hS) (R0_4 hR), bs, nI_add, c_aN (G9 hS) (Or.inl rfl) (by decide) (by omega), bs, e9, bs, C7g4 hq, bs, m4, eMem_s]
    by_cases c1 : x.2.2 = false
    · have hkd : mkd true x.2.2 = 2 := by rw [c1]; rfl
      have hcO : cO sk L τ (10 + 2 * (8 * fl + k)) (base + x.1) x.2.1 S := ⟨hq, (hR.2.1 _ (by omega)).1, G7 hS, R7_0 hR, G8 hS, h8, m5, m6, by omega, hB⟩
      obtain ⟨τ1, f1, f2, f3⟩ := k_readError (c := c) (ss := ss) hc hF hcO (hR.2.1 _ (by omega)).2.1 hgq (by omega) (by omega) (G139 hS) (by omega) m9 m11 (by omega) h7 (by omega) hss2
      have hcs : cb S (base + x.1) x.2.1 = sub b x.1 x.2.1 := by rw [cb_sub hx1, hcb]
      rw [hkd, if_pos rfl, C0r7 (G0 hS) (R0_7 hR), bs, c_o hq, bs, f2, xb_mk, f_H_readArchive_167, nI_add, hcs]
      rw [hcs] at f3
      have fr1 : frF fl τ τ1 := frO_F (show k < 8 by omega) f1
      have hR1 := GR_F hR fr1
      have oth : ∀ j, j ≠ k → j < 8 → (∀ i, fI τ1 (10 + 2 * (8 * fl + j)) i = fI τ (10 + 2 * (8 * fl + j)) i) ∧ eI τ1 (11 + 2 * (8 * fl + j)) = eI τ (11 + 2 * (8 * fl + j)) := fun j hj hj8 => ⟨fun i => f1.1 _ _ (Or.inl (by omega)), f1.2.2.2.1 _ (by omega) (by omega)⟩
      by_cases c2 : eObj (sub b x.1 x.2.1) x.2.1 = 0
      · rw [c2, if_neg (fun e => e.2 rfl)]
        obtain ⟨τ', g1, g2, g3, g4⟩ := ih (k + 1) f τ1 hR1 ((fr1.2.2.2.2.1 8 (by omega) (by decide)).trans h8) ((fr1.1 7 1 (by omega)).trans h7) (by omega) (mO_eq l (k + 1) (fun j h1 h2 => (oth j (by omega) (by omega)).1) hO') (fun j h1 h2 => by rw [(oth j (by omega) h2).1]; exact hz j (by omega) h2) (fun y hy => hx y (List.mem_cons_of_mem _ hy)) (by omega)
        refine ⟨τ', frF_trans fr1 g1, g2, ?_, ?_⟩
        · intro j hj
          have h1 := g3 j (by omega)
          have h2 := oth j (by omega) (by omega)
          exact ⟨fun i => (h1.1 i).trans (h2.1 i), h1.2.trans h2.2⟩
        · intro h0
          have hk' := g3 k (by omega)
          have f1' : ∀ i, (i < 7 ∨ 14 < i) → fI τ' (10 + 2 * (8 * fl + k)) i = fI τ (10 + 2 * (8 * fl + k)) i := fun i hi => (hk'.1 i).trans (f1.1 _ _ (by omega))
          refine ⟨⟨(f1' 4 (by decide)).trans (by rw [m4]), (f1' 5 (by decide)).trans m5, (f1' 6 (by decide)).trans m6, fun _ => ?_⟩, g4 h0⟩
          exact cD_eq (f3 c2) (fun i _ _ _ => hk'.1 i) (fun a i => g1.2.2.2.1 a i) hk'.2 ((g1.2.2.2.2.1 8 (by omega) (by decide)).trans ((fr1.2.2.2.2.1 8 (by omega) (by decide)).trans h8)) rfl hB
      · have h9 := eObj_le (sub b x.1 x.2.1) x.2.1
        rw [if_pos ⟨c1, c2⟩]
        obtain ⟨f, rfl⟩ : ∃ g, f = g + 1 := ⟨f - 1, by omega⟩
        refine ⟨τ1, fr1, ?_, fun j hj => oth j (by omega) (by omega), fun e => absurd e c2⟩
        unfold f_H_readArchive_122
        rw [if_neg (show ¬ nI (eObj (sub b x.1 x.2.1) x.2.1) = 0 from nI_ne0 (by omega) (by omega)), ite_self]
        rfl
    · have c1' : x.2.2 = true := by cases hq : x.2.2 <;> simp_all
      have hkd : mkd true x.2.2 = 3 := by rw [c1']; rfl
      rw [hkd, if_neg (show ¬ nI 3 = nI 2 by decide), f_H_readArchive_167, nI_add, if_neg (fun e => c1 e.1)]
      obtain ⟨τ', g1, g2, g3, g4⟩ := ih (k + 1) f τ hR h8 h7 (by omega) hO' (fun j h1 h2 => hz j (by omega) h2) (fun y hy => hx y (List.mem_cons_of_mem _ hy)) (by omega)
      refine ⟨τ', g1, g2, fun j hj => g3 j (by omega), fun h0 => ?_⟩
      have hk' := g3 k (by omega)
      exact ⟨⟨(hk'.1 4).trans m4, (hk'.1 5).trans m5, (hk'.1 6).trans m6, fun e => absurd e c1⟩, g4 h0⟩
end CAR
