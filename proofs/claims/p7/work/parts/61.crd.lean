/-! the class's error of an object -/
theorem eSym_eq (b : Nat → Nat) : eSym b = if eS1 b = true then (if al (yOK b) 1 (oM b - 1) = true then 0 else 6) else 5 := by
  unfold eSym eS1
  by_cases c1 : 1 < cnt (fun i => decide (oT b i = 2)) 1 (oS b - 1)
  · rw [if_pos c1, if_neg (by rw [decide_eq_false (fun e => e.1 c1)]; decide)]
  · rw [if_neg c1]
    by_cases c2 : oY b = 0
    · rw [if_pos c2, if_pos (decide_eq_true ⟨c1, Or.inl c2⟩), show oM b = 0 from if_pos c2]
      rfl
    · rw [if_neg c2]
      by_cases c3 : oZ b (oY b) % 24 = 0 ∧ oZ b (oY b) ≤ 1536 ∧ oX b < oS b ∧ oT b (oX b) = 3
      · rw [if_pos c3, if_pos (decide_eq_true ⟨c1, Or.inr c3⟩)]
      · rw [if_neg c3, if_neg (by rw [decide_eq_false (fun e => e.2.elim c2 c3)]; decide)]
section CRD
variable {F : Nat} {c : px_CT} {sk : Nat → Nat × Nat × Nat} {L q g base n : Nat} {τ : px_TT} {S : Nat → Int32}
theorem k_rE_40 {ss : Nat} (hs : cS sk L τ q g base n S) (hF : 65536 < F) (h71 : fI τ 7 1 = nI ss) (hss : base + n ≤ ss) (hss2 : ss ≤ 65536) : ∀ (d j f : Nat), d = oM (cb S base n) - j → 1 ≤ j → j < 2 ^ 30 → d < f → f_ObjectFile_readError_40 F c f q 139 (nI j) (cH sk L τ) = if al (yOK (cb S base n)) j d = true then f_ObjectFile_readError_65 F c q 139 (cH sk L τ) else some (nI 6, cH sk L τ) := by
  have o1 := hs.1.1.1.1
  have hM := w2_M hs.2.2
  intro d
  induction d with
  | zero =>
    intro j f hd h1 h2 hf
    obtain ⟨f, rfl⟩ : ∃ g, f = g + 1 := ⟨f - 1, by omega⟩
    unfold f_ObjectFile_readError_40
    rw [C7g11 o1, bs, hs.2.1.2.1, if_pos (nI_le (by omega) (by omega))]
    rfl
  | succ d ih =>
    intro j f hd h1 h2 hf
    obtain ⟨f, rfl⟩ : ∃ g, f = g + 1 := ⟨f - 1, by omega⟩
    unfold f_ObjectFile_readError_40
    rw [C7g11 o1, bs, hs.2.1.2.1, if_neg (nI_ge (by omega) (by omega)), c_o o1, bs, k_isSymbolGood hs (by omega) h1 (by omega) h71 hss hss2, xb_mk, nI_add, al_s]
    by_cases c1 : yOK (cb S base n) j = true
    · rw [c1, if_neg (show ¬ bI true = 0 by decide), Bool.true_and]
      exact ih (j + 1) f (by omega) (by omega) (by omega) (by omega)
    · rw [Bool.eq_false_iff.mpr c1, if_pos (show bI false = 0 from rfl), Bool.false_and]
      rfl
/-- what stands there when an object has been read without an error -/
def cD (sk : Nat → Nat × Nat × Nat) (L : Nat) (τ : px_TT) (q g base n : Nat) (S : Nat → Int32) : Prop := cS sk L τ q g base n S ∧ (∀ v, v < 32 → bt (fI τ q 14) v = (decide (v < oS (cb S base n)) && oStr (cb S base n) v)) ∧ eObj (cb S base n) n = 0
theorem k_readError {ss : Nat} (hc : KT c) (hF : 65536 < F) (ho : cO sk L τ q base n S) (h3 : fN τ q 3 = some g) (hga : ar sk L 0 24 g) (hg : g ≠ 8) (hg139 : g ≠ 139) (hm : ar sk L 1 8192 139) (hn : n ≤ 8192) (h9 : fI τ q 9 = Int32.ofInt (-1)) (h11 : fI τ q 11 = nI 0) (hq7 : q ≠ 7) (h71 : fI τ 7 1 = nI ss) (hss : base + n ≤ ss) (hss2 : ss ≤ 65536) : ∃ τ', frO q g τ τ' ∧ f_ObjectFile_readError F c q 139 (cH sk L τ) = some (nI (eObj (cb S base n) n), cH sk L τ') ∧ (eObj (cb S base n) n = 0 → cD sk L τ' q g base n S) := by
  have o1 := ho.1
  have hF8 : 8 < F := by omega
  unfold f_ObjectFile_readError
  rw [c_o o1, bs, k_isHeadGood hc ho hF8, xb_mk]
  have hE : ∀ x, eObj (cb S base n) n = x → x ≠ 0 → ∀ τ', frO q g τ τ' → ∃ τ'', frO q g τ τ'' ∧ (some (nI x, cH sk L τ') : Option (Int32 × px_H)) = some (nI (eObj (cb S base n) n), cH sk L τ'') ∧ (eObj (cb S base n) n = 0 → cD sk L τ'' q g base n S) := by
    intro x hx hx0 τ' hf
    refine ⟨τ', hf, by rw [hx], fun e => ?_⟩
    rw [hx] at e
    exact absurd e hx0
  by_cases c1 : (decide (64 ≤ n) && oH (cb S base n)) = true
  · have c1' := (Bool.and_eq_true _ _).mp c1
    have hn64 : 64 ≤ n := of_decide_eq_true c1'.1
    have n1 : ¬ (n < 64 ∨ oH (cb S base n) = false) := fun e => e.elim (fun e => by omega) (fun e => by rw [e] at c1'; exact absurd c1'.2 (by decide))
    rw [c1, if_neg (show ¬ bI true = 0 by decide), c_o o1, bs]
    obtain ⟨τ1, f1, f2, f3, f4, f5⟩ := k_areRowsGood (c := c) (g := g) ho hF8 hn64 hg
    rw [f2, xb_mk]
    by_cases c2 : 1 ≤ oS (cb S base n) ∧ oS (cb S base n) ≤ 24 ∧ oR (cb S base n) + 64 * oS (cb S base n) ≤ n ∧ oT (cb S base n) 0 = 0
    · have hr := f3 c2
      rw [decide_eq_true c2, if_neg (show ¬ bI true = 0 by decide), c_o o1, bs]
      obtain ⟨τ2, g1, g2, g3, g4⟩ := k_sectionsError (c := c) hr (show 24 < F by omega) ((f1.2.2.1 q 3).trans h3) hga hg
      rw [g2, xb_mk]
      have hle := fst0_le (M := 4) (fun i => eSec_3 (cb S base n) n i) (c := oS (cb S base n)) (i := 0)
      have fr2 := frO_trans f1 g1
      by_cases c3 : fst0 (eSec (cb S base n) n) 0 (oS (cb S base n)) = 0
      · have hw : w1 (cb S base n) n := ⟨hn64, ⟨c2.1, c2.2.1⟩, c2.2.2.1, fun i hi => (eSec_w (fst0_0 c3 i (Nat.zero_le _) (by omega))).1, fun i hi => (eSec_w (fst0_0 c3 i (Nat.zero_le _) (by omega))).2.1⟩
        have hA : ∀ i, i < oS (cb S base n) → oK (cb S base n) i = true → oA (cb S base n) i ≤ 4096 := by
          intro i hi hk
          rcases (eSec_w (fst0_0 c3 i (Nat.zero_le _) (by omega))).2.2 hk with e | e
          · rw [e]; decide
          · exact (of_decide_eq_true e).2.1
        have hr2 := cR_fr hr g1 hg (g4 7) (g4 8)
        rw [c3, if_pos (show nI 0 = 0 from rfl), c_o o1, bs]
        obtain ⟨τ3, i1, i2, i3, i4, i5, i6⟩ := k_findSymbols (c := c) hw c2.2.2.2 hr2 (show 24 < F by omega) hg ((g4 9).trans (f4.trans h9)) ((g4 11).trans (f5.trans h11))
        rw [i2, xb_mk]
        have fr3 := frO_trans fr2 i1
        have eO : eObj (cb S base n) n = if eSym (cb S base n) ≠ 0 then eSym (cb S base n) else if eSit (cb S base n) ≠ 0 then eSit (cb S base n) else eGrp (cb S base n) := by
          unfold eObj
          rw [if_neg n1, if_neg (fun e => e c2), if_neg (fun e => e c3)]
        by_cases c4 : eS1 (cb S base n) = true
        · have hcY := i6 c4
          have hw2 : w2 (cb S base n) n := ⟨hw, fun d => (of_decide_eq_true c4).2.resolve_left d⟩
          have hG3 : cG sk L τ3 q g base n S := ⟨cR_fr hr2 i1 hg i3 i4, (fr3.2.2.1 q 3).trans h3, hga, hg, by rw [i5]; exact g3 c3⟩
          have hs : cS sk L τ3 q g base n S := ⟨hG3, hcY, hw2⟩
          have h71' : fI τ3 7 1 = nI ss := (fr3.1 7 1 (Or.inl (fun e => hq7 e.symm))).trans h71
          have hM := w2_M hw2
          rw [c4, if_neg (show ¬ bI true = 0 by decide), k_rE_40 hs hF h71' hss hss2 (oM (cb S base n) - 1) 1 F rfl (by decide) (by decide) (by omega)]
          by_cases c5 : al (yOK (cb S base n)) 1 (oM (cb S base n) - 1) = true
          · have e0 : eSym (cb S base n) = 0 := by rw [eSym_eq, if_pos c4, if_pos c5]
            rw [if_pos c5]
            unfold f_ObjectFile_readError_65
            obtain ⟨M', j1⟩ := k_areSitesGood (c := c) hs hF c2.2.2.2 hm hn hg139
            rw [c_o o1, bs, j1, xb_mk]
            have fr4 := frO_trans fr3 (frO_m q g τ3 M')
            have hs4 : cS sk L (vI τ3 139 M') q g base n S := cS_fr hs (frO_m q g τ3 M') (fun _ _ => rfl) (u1_ne hg139)
            by_cases c6 : eSit (cb S base n) = 0
            · rw [decide_eq_true c6, if_neg (show ¬ bI true = 0 by decide), c_o o1, bs, k_areGroupsGood hs4 hF c2.2.2.2, xb_mk]
              by_cases c7 : eGrp (cb S base n) = 0
              · obtain ⟨x', l1, l2⟩ := k_findStrings (c := c) hs4 (show 24 < F by omega) hA
                have eO0 : eObj (cb S base n) n = 0 := by rw [eO, if_neg (fun e => e e0), if_neg (fun e => e c6), c7]
                rw [decide_eq_true c7, if_neg (show ¬ bI true = 0 by decide), c_o o1, bs, l2, xb_mk]
                refine ⟨_, frO_trans fr4 (frO_I q g _ 14 x' (by decide) (by decide)), by rw [eO0], fun _ => ⟨cS_14 hs4 x', ?_, eO0⟩⟩
                intro v hv
                show bt (u2 (vI τ3 139 M').1 q 14 x' q 14) v = _
                rw [u2_eq]
                exact l1 v hv
              · rw [decide_eq_false c7, if_pos (show bI false = 0 from rfl)]
                have e9 : eGrp (cb S base n) = 9 := by
                  unfold eGrp at c7 ⊢
                  by_cases d : gs (cb S base n) 1 (oS (cb S base n) - 1) (fun _ => false) = true
                  · rw [if_pos d] at c7; exact absurd rfl c7
                  · rw [if_neg d]
                exact hE 9 (by rw [eO, if_neg (fun e => e e0), if_neg (fun e => e c6), e9]) (by decide) _ fr4
            · rw [decide_eq_false c6, if_pos (show bI false = 0 from rfl)]
              have e7 : eSit (cb S base n) = 7 := by
                unfold eSit at c6 ⊢
                by_cases d : al (fun i => !isS (cb S base n) i || sSec (cb S base n) i) 1 (oS (cb S base n) - 1) = true
                · rw [if_pos d] at c6; exact absurd rfl c6
                · rw [if_neg d]
              exact hE 7 (by rw [eO, if_neg (fun e => e e0), if_pos c6, e7]) (by decide) _ fr4
          · rw [if_neg c5]
            have e6 : eSym (cb S base n) = 6 := by rw [eSym_eq, if_pos c4, if_neg c5]
            exact hE 6 (by rw [eO, e6, if_pos (by decide)]) (by decide) _ fr3
        · rw [Bool.eq_false_iff.mpr c4, if_pos (show bI false = 0 from rfl)]
          have e5 : eSym (cb S base n) = 5 := by rw [eSym_eq, if_neg c4]
          exact hE 5 (by rw [eO, e5, if_pos (by decide)]) (by decide) _ fr3
      · rw [if_neg (show ¬ nI (fst0 (eSec (cb S base n) n) 0 (oS (cb S base n))) = 0 from nI_ne0 (by omega) (by omega))]
        refine hE _ ?_ c3 _ fr2
        unfold eObj
        rw [if_neg n1, if_neg (fun e => e c2), if_pos c3]
    · rw [decide_eq_false c2, if_pos (show bI false = 0 from rfl)]
      refine hE 2 ?_ (by decide) _ f1
      unfold eObj
      rw [if_neg n1, if_pos c2]
  · rw [Bool.eq_false_iff.mpr c1, if_pos (show bI false = 0 from rfl)]
    refine hE 1 ?_ (by decide) _ (frO_refl _ _ _)
    unfold eObj
    refine if_pos ?_
    by_cases d : n < 64
    · exact Or.inl d
    · right
      apply Bool.eq_false_iff.mpr
      intro e
      exact c1 (by rw [e, decide_eq_true (by omega)]; rfl)
end CRD
