/-! the class's sites: isSiteGood -/
/-- the marks tell which bytes the sites ahead of site j of section i have -/
def MK (b : Nat → Nat) (n i j : Nat) (M : Nat → Int32) : Prop := ∀ x t, x < n → t < 24 → (bt (M x) t = true ↔ ∃ a k, ((a < i ∧ k < sN b a) ∨ (a = i ∧ k < j)) ∧ isS b a = true ∧ oI b a = t ∧ sL b a k ≤ x ∧ x < sL b a k + wd (sH b a k))
theorem MK_free {b : Nat → Nat} {n i j w : Nat} {M : Nat → Int32} (hM : MK b n i j M) (hT0 : oT b 0 = 0) (ht : oI b i < 24) (hw : wd (sH b i j) = w) (hw0 : 0 < w) (hn : sL b i j + w ≤ n) : al (fun x => !bt (M x) (oI b i)) (sL b i j) w = al (sFr b i j) 1 i := by
  have key : al (fun x => !bt (M x) (oI b i)) (sL b i j) w = true ↔ al (sFr b i j) 1 i = true := by
    rw [al_iff, al_iff]
    constructor
    · intro h a h1 h2
      unfold sFr
      by_cases c : isS b a = true ∧ oI b a = oI b i
      · rw [c.1, decide_eq_true c.2]
        show (false || al (sFree b i j a) 0 (if a < i then sN b a else j)) = true
        rw [Bool.false_or, al_iff]
        intro k _ hk
        rw [Nat.zero_add] at hk
        apply decide_eq_true
        rw [hw]
        by_cases e1 : wd (sH b a k) = 0
        · exact Or.inl e1
        · by_cases e2 : sL b a k + wd (sH b a k) ≤ sL b i j
          · exact Or.inr (Or.inl e2)
          · by_cases e3 : sL b i j + w ≤ sL b a k
            · exact Or.inr (Or.inr e3)
            · exfalso
              have hb : ∀ x, sL b i j ≤ x → x < sL b i j + w → sL b a k ≤ x → x < sL b a k + wd (sH b a k) → False := by
                intro x x1 x2 x3 x4
                have g1 := h x x1 x2
                have g2 : bt (M x) (oI b i) = true := (hM x (oI b i) (by omega) ht).mpr ⟨a, k, by
                  by_cases e : a < i
                  · rw [if_pos e] at hk; exact Or.inl ⟨e, hk⟩
                  · rw [if_neg e] at hk; exact Or.inr ⟨by omega, hk⟩, c.1, c.2, x3, x4⟩
                rw [g2] at g1
                exact absurd g1 (by decide)
              by_cases e4 : sL b i j ≤ sL b a k
              · exact hb (sL b a k) e4 (by omega) (Nat.le_refl _) (by omega)
              · exact hb (sL b i j) (Nat.le_refl _) (by omega) (by omega) (by omega)
      · have : (isS b a && decide (oI b a = oI b i)) = false := by
          cases hq : isS b a with
          | false => rfl
          | true => rw [decide_eq_false (fun e => c ⟨hq, e⟩)]; rfl
        rw [this]
        rfl
    · intro h x h1 h2
      show (!bt (M x) (oI b i)) = true
      cases hq : bt (M x) (oI b i) with
      | false => rfl
      | true =>
        exfalso
        obtain ⟨a, k, g1, g2, g3, g4, g5⟩ := (hM x (oI b i) (by omega) ht).mp hq
        have ha : 1 ≤ a := by
          rcases Nat.eq_zero_or_pos a with e | e
          · rw [e] at g2
            have := (isS_T g2).1
            rw [hT0] at this
            exact absurd this (by decide)
          · exact e
        have f1 := h a ha (by omega)
        unfold sFr at f1
        rw [g2, decide_eq_true g3] at f1
        have f2 : al (sFree b i j a) 0 (if a < i then sN b a else j) = true := f1
        have f3 := of_decide_eq_true (al_iff.mp f2 k (Nat.zero_le _) (by
          rw [Nat.zero_add]
          rcases g1 with e | e
          · rw [if_pos e.1]; exact e.2
          · rw [if_neg (by omega)]; exact e.2))
        rw [hw] at f3
        omega
  cases h1 : al (fun x => !bt (M x) (oI b i)) (sL b i j) w <;> cases h2 : al (sFr b i j) 1 i <;> simp_all
theorem MK_next {b : Nat → Nat} {n i j w : Nat} {M : Nat → Int32} (hM : MK b n i j M) (hi : isS b i = true) (ht : oI b i < 24) (hw : wd (sH b i j) = w) : MK b n i (j + 1) (sb M (oI b i) (sL b i j) (sL b i j + w)) := by
  intro x t hx ht2
  rw [sb_bt (by omega) (by omega), Bool.or_eq_true, hM x t hx ht2, decide_eq_true_iff]
  constructor
  · rintro (⟨a, k, g1, g2⟩ | ⟨g1, g2, g3⟩)
    · exact ⟨a, k, by omega, g2⟩
    · exact ⟨i, j, by omega, hi, g1.symm, g2, by rw [hw]; exact g3⟩
  · rintro ⟨a, k, g1, g2, g3, g4, g5⟩
    by_cases e : a = i ∧ k = j
    · right
      rw [e.1, e.2] at g4 g5
      rw [e.1] at g3
      rw [hw] at g5
      exact ⟨g3.symm, g4, g5⟩
    · left
      exact ⟨a, k, by omega, g2, g3, g4, g5⟩
theorem MK_row {b : Nat → Nat} {n i : Nat} {M : Nat → Int32} (hM : MK b n i (sN b i) M) : MK b n (i + 1) 0 M := by
  intro x t hx ht
  rw [hM x t hx ht]
  constructor
  · rintro ⟨a, k, g1, g2⟩
    refine ⟨a, k, Or.inl ?_, g2⟩
    rcases g1 with e | e
    · exact ⟨by omega, e.2⟩
    · exact ⟨by omega, by rw [e.1]; exact e.2⟩
  · rintro ⟨a, k, g1, g2⟩
    refine ⟨a, k, ?_, g2⟩
    rcases g1 with e | e
    · by_cases c : a = i
      · rw [c] at e; exact Or.inr ⟨c, e.2⟩
      · exact Or.inl ⟨by omega, e.2⟩
    · omega
theorem MK_skip {b : Nat → Nat} {n i : Nat} {M : Nat → Int32} (hM : MK b n i 0 M) (hi : isS b i = false) : MK b n (i + 1) 0 M := by
  intro x t hx ht
  rw [hM x t hx ht]
  constructor
  · rintro ⟨a, k, g1, g2⟩
    exact ⟨a, k, by omega, g2⟩
  · rintro ⟨a, k, g1, g2⟩
    refine ⟨a, k, ?_, g2⟩
    rcases g1 with e | e
    · by_cases c : a = i
      · rw [c, hi] at g2; exact absurd g2.1 (by decide)
      · exact Or.inl ⟨by omega, e.2⟩
    · omega
theorem MK_0 {b : Nat → Nat} {n : Nat} {M : Nat → Int32} (h : ∀ x, x < n → M x = nI 0) : MK b n 0 0 M := by
  intro x t hx ht
  rw [h x hx, show bt (nI 0) t = false from b_0 t]
  constructor
  · intro e; exact absurd e (by decide)
  · rintro ⟨a, k, g1, _⟩; omega
section CSJ
variable {F : Nat} {c : px_CT} {sk : Nat → Nat × Nat × Nat} {L q g base n : Nat} {τ : px_TT} {S : Nat → Int32}
theorem cS_fr {τ' : px_TT} (hs : cS sk L τ q g base n S) (hf : frO q g τ τ') (hk : ∀ k, k < 14 → fI τ' q k = fI τ q k) (hg : eI τ' g = eI τ g) : cS sk L τ' q g base n S := by
  obtain ⟨⟨hr, h3, h4, h5, h6⟩, ⟨y1, y2, y3⟩, hw⟩ := hs
  refine ⟨⟨cR_fr hr hf h5 (hk 7 (by decide)) (hk 8 (by decide)), (hf.2.2.1 q 3).trans h3, h4, h5, by rw [hg]; exact h6⟩, ⟨(hk 9 (by decide)).trans y1, (hk 11 (by decide)).trans y2, fun e => ⟨(hk 10 (by decide)).trans (y3 e).1, (hk 12 (by decide)).trans (y3 e).2.1, (hk 13 (by decide)).trans (y3 e).2.2⟩⟩, hw⟩
theorem k_targetOf {i : Nat} (hg : cG sk L τ q g base n S) (hF : 8 < F) (hi : i < oS (cb S base n)) : f_ObjectFile_targetOf F c q (nI i) (cH sk L τ) = some (if isS (cb S base n) i = true then nI (oI (cb S base n) i) else Int32.ofInt (-1), cH sk L τ) := by
  have o1 := hg.1.1.1
  have eT := oT_lt (cb_lt S base n) i
  have eI' := oI_lt (cb_lt S base n) i
  unfold f_ObjectFile_targetOf
  rw [c_o o1, bs, k_T hg.1 hF hi, xb_mk, c_o o1, bs, k_I hg.1 hF hi, xb_mk, c_o o1, bs, k_groupOf hg (by omega), xb_mk, lN_i]
  simp only [lk, lEQ (show oT (cb S base n) i < 2 ^ 64 by omega) (show 4 < 2 ^ 64 by decide), f_ObjectFile_targetOf_34]
  unfold isS
  by_cases c1 : oT (cb S base n) i = 4
  · rw [if_pos c1]
    by_cases c2 : oI (cb S base n) i < oS (cb S base n)
    · rw [if_pos c2]
      have e := gv_n (cb S base n) (oI (cb S base n) i)
      by_cases c3 : oK (cb S base n) (oI (cb S base n) i) = true
      · rw [if_pos (Int32.not_lt.mp (fun d => by rw [e.mp d] at c3; exact absurd c3 (by decide))), if_pos (decide_eq_true ⟨c1, c2, c3⟩)]
      · rw [if_neg (fun d => absurd (e.mpr (Bool.eq_false_iff.mpr c3)) (Int32.not_lt.mpr d)), if_neg (by rw [decide_eq_false (fun d => c3 d.2.2)]; decide)]
    · rw [if_neg c2, if_neg (by decide), if_neg (by rw [decide_eq_false (fun d => c2 d.2.1)]; decide)]
  · rw [if_neg c1, if_neg (by rw [decide_eq_false (fun d => c1 d.1)]; decide)]
theorem k_isSiteGood {i j : Nat} (hs : cS sk L τ q g base n S) (hF : 24 < F) (hT0 : oT (cb S base n) 0 = 0) (hm : ar sk L 1 8192 139) (hn : n ≤ 8192) (hg139 : g ≠ 139) (hi : i < oS (cb S base n)) (hiS : isS (cb S base n) i = true) (hj : j < sN (cb S base n) i) (hM : MK (cb S base n) n i j (eI τ 139)) : ∃ M', f_ObjectFile_isSiteGood F c q (nI (sP (cb S base n) i j)) (nI (oI (cb S base n) i)) 139 (cH sk L τ) = some (bI (sOK (cb S base n) i j), cH sk L (vI τ 139 M')) ∧ (sOK (cb S base n) i j = true → MK (cb S base n) n i (j + 1) M') := by
  have o1 := hs.1.1.1.1
  have hF8 : 8 < F := by omega
  have h24 := hs.1.1.2.1.2.2
  have hS := isS_T hiS
  have hp := w1_sp hs.2.2.1 hi hS.1 hj
  have hM' := w2_M hs.2.2
  have eY := sY_lt (cb_lt S base n) i j
  have eL := sL_lt (cb_lt S base n) i j
  have eT := oT_lt (cb_lt S base n) (oI (cb S base n) i)
  have hz := hs.2.2.1.2.2.2.2 _ hS.2.1 hS.2.2
  have hpx : sP (cb S base n) i j < 2 ^ 29 := by
    generalize sP (cb S base n) i j = y at *
    omega
  have q8 : f_ObjectFile_num F c q (nI (sP (cb S base n) i j + 8)) (nI 4) (cH sk L τ) = some (lN (sH (cb S base n) i j), cH sk L τ) := by
    rw [k_num hs.1.1.1 hF8 (by decide) (by omega), nm_in (ar_12 hp)]
    simp only [sH]
  have q12 : f_ObjectFile_num F c q (nI (sP (cb S base n) i j + 12)) (nI 4) (cH sk L τ) = some (lN (sY (cb S base n) i j), cH sk L τ) := by
    rw [k_num hs.1.1.1 hF8 (by decide) (by omega), nm_in (ar_16 hp)]
    simp only [sY]
  have q0 : f_ObjectFile_num F c q (nI (sP (cb S base n) i j)) (nI 8) (cH sk L τ) = some (lN (sL (cb S base n) i j), cH sk L τ) := by
    rw [k_num hs.1.1.1 hF8 (by decide) (by omega), nm_in (ar_8 hp)]
    simp only [sL]
  unfold f_ObjectFile_isSiteGood
  rw [c_o o1, bs, nI_add, q8, xb_mk, k_siteWidth (sH_lt (cb_lt S base n) i j), xb_mk, c_o o1, bs, nI_add, q12, xb_mk, C7g11 o1, bs, hs.2.1.2.1, nI_l (by omega), c_o o1, bs, q0, xb_mk, c_o o1, bs, k_Z hs.1.1 hF8 hS.2.1, xb_mk, c_o o1, bs, k_T hs.1.1 hF8 hS.2.1, xb_mk, k_above eL (by omega), xb_mk]
  simp only [show (0 : Int32) = nI 0 from rfl, wI_n0, wI_0, pk_lLT (show sY (cb S base n) i j < 2 ^ 63 by omega) (show oM (cb S base n) < 2 ^ 63 by omega), lk, lEQ (show oT (cb S base n) (oI (cb S base n) i) < 2 ^ 64 by omega) (show 8 < 2 ^ 64 by decide), bI_0, decide_eq_false_iff_not, f_ObjectFile_isSiteGood_37, f_ObjectFile_isSiteGood_98]
  have bad : sOK0 (cb S base n) i j = false → ∃ M', (some (nI 0, cH sk L τ) : Option (Int32 × px_H)) = some (bI (sOK (cb S base n) i j), cH sk L (vI τ 139 M')) ∧ (sOK (cb S base n) i j = true → MK (cb S base n) n i (j + 1) M') := by
    intro h0
    have e : sOK (cb S base n) i j = false := by unfold sOK; rw [h0, Bool.false_and]
    refine ⟨eI τ 139, ?_, fun d => by rw [e] at d; exact absurd d (by decide)⟩
    rw [e, vI_self]
    rfl
  by_cases c1 : wd (sH (cb S base n) i j) = 16
  · rw [if_pos c1]
    exact bad (decide_eq_false (fun d => d.1 c1))
  · rw [if_neg c1]
    by_cases c2 : sY (cb S base n) i j < oM (cb S base n)
    · rw [if_pos c2]
      by_cases c3 : wd (sH (cb S base n) i j) = 0
      · have e0 : sOK0 (cb S base n) i j = true := decide_eq_true ⟨c1, c2, Or.inl c3⟩
        have e : sOK (cb S base n) i j = true := by unfold sOK; rw [e0, decide_eq_true c3]; rfl
        refine ⟨eI τ 139, ?_, fun _ => ?_⟩
        · rw [if_pos c3, e, vI_self]
          rfl
        · have := MK_next hM hiS (Nat.lt_of_lt_of_le hS.2.1 h24) c3
          rw [Nat.add_zero (sL (cb S base n) i j), sb_0] at this
          exact this
      · rw [if_neg c3]
        by_cases c4 : oT (cb S base n) (oI (cb S base n) i) = 8
        · rw [if_pos c4]
          exact bad (decide_eq_false (fun d => d.2.2.elim c3 (fun d => d.1 c4)))
        · rw [if_neg c4]
          by_cases c5 : oZ (cb S base n) (oI (cb S base n) i) < sL (cb S base n) i j
          · rw [if_neg (fun d => d c5)]
            exact bad (decide_eq_false (fun d => d.2.2.elim c3 (fun d => by have := d.2; omega)))
          · have w8 := wd_le c1
            rw [if_pos c5, wI_l c1, lN_sub (by omega), k_above (by omega) (by omega), xb_mk]
            simp only [bI_0, decide_eq_false_iff_not]
            by_cases c6 : oZ (cb S base n) (oI (cb S base n) i) - sL (cb S base n) i j < wd (sH (cb S base n) i j)
            · rw [if_neg (fun d => d c6)]
              exact bad (decide_eq_false (fun d => d.2.2.elim c3 (fun d => by have := d.2; omega)))
            · have hfit : sL (cb S base n) i j + wd (sH (cb S base n) i j) ≤ oZ (cb S base n) (oI (cb S base n) i) := by omega
              have hk1 : oT (cb S base n) (oI (cb S base n) i) = 1 := by
                have := of_decide_eq_true hS.2.2
                rcases this.1 with e | e
                · exact e
                · exact absurd e c4
              have hlie := hs.2.2.1.2.2.2.1 _ hS.2.1 (by rw [hk1]; decide) c4
              have hzn : oZ (cb S base n) (oI (cb S base n) i) ≤ n := by
                generalize oZ (cb S base n) (oI (cb S base n) i) = z at *
                generalize oP (cb S base n) (oI (cb S base n) i) = y at *
                omega
              have e0 : sOK0 (cb S base n) i j = true := decide_eq_true ⟨c1, c2, Or.inr ⟨c4, hfit⟩⟩
              have hfree := MK_free hM hT0 (Nat.lt_of_lt_of_le hS.2.1 h24) rfl (by omega) (by omega)
              have e : sOK (cb S base n) i j = al (sFr (cb S base n) i j) 1 i := by
                unfold sOK
                rw [e0, decide_eq_false c3, Bool.true_and, Bool.false_or]
              obtain ⟨e', x1, x2, x3⟩ := k_iSG_103 (F := F) (c := c) (sk := sk) (L := L) (t := oI (cb S base n) i) (p := sL (cb S base n) i j) (w := wd (sH (cb S base n) i j)) hm (Nat.lt_of_lt_of_le hS.2.1 h24) (by omega) (wd (sH (cb S base n) i j)) 0 F τ (eI τ 139) (by omega) (by omega) (by rw [Nat.add_zero, sb_0])
              rw [Nat.add_zero, hfree, ← e] at x2 x3
              refine ⟨sb (eI τ 139) (oI (cb S base n) i) (sL (cb S base n) i j) e', ?_, fun d => ?_⟩
              · rw [if_pos c6, show wI (sH (cb S base n) i j) = nI (wd (sH (cb S base n) i j)) from if_neg c1]
                exact x2
              · rw [x3 d]
                exact MK_next hM hiS (Nat.lt_of_lt_of_le hS.2.1 h24) rfl
    · rw [if_neg c2]
      exact bad (decide_eq_false (fun d => c2 d.2.1))
theorem k_fill_10 {v : Int32} {e : Nat} (hm : ar sk L 1 8192 139) (he : e ≤ 8192) : ∀ (d k f : Nat) (τ : px_TT), k + d = e → d < f → (∀ x, x < k → eI τ 139 x = v) → ∃ M, (∀ x, x < e → M x = v) ∧ f_Arrays_fill_10 F c f 139 (nI e) v (nI k) (cH sk L τ) = some ((), cH sk L (vI τ 139 M)) := by
  intro d
  induction d with
  | zero =>
    intro k f τ hk hf hx
    obtain ⟨f, rfl⟩ : ∃ g, f = g + 1 := ⟨f - 1, by omega⟩
    refine ⟨eI τ 139, fun x h => hx x (by omega), ?_⟩
    unfold f_Arrays_fill_10
    rw [if_pos (nI_le (by omega) (by omega)), vI_self]
    rfl
  | succ d ih =>
    intro k f τ hk hf hx
    obtain ⟨f, rfl⟩ : ∃ g, f = g + 1 := ⟨f - 1, by omega⟩
    unfold f_Arrays_fill_10
    rw [if_neg (nI_ge (by omega) (by omega)), c_sI hm (Or.inr (Or.inl rfl)) (by decide) (by omega), bs, nI_add]
    obtain ⟨M, h1, h2⟩ := ih (k + 1) f (vI τ 139 (upd (eI τ 139) k v)) (by omega) (by omega) (by
      intro x hxk
      show u1 τ.2.2.2.1 139 (upd (eI τ 139) k v) 139 x = v
      rw [u1_eq]
      by_cases e : x = k
      · rw [e]; exact upd_eq
      · rw [upd_ne e]; exact hx x (by omega))
    exact ⟨M, h1, by rw [h2, vI_vI]⟩
theorem k_aSG_90 {i : Nat} {k21 : Nat → Nat → Int32 → px_H → Option (Int32 × px_H)} (hF : 24 < F) (hT0 : oT (cb S base n) 0 = 0) (hm : ar sk L 1 8192 139) (hn : n ≤ 8192) (hg139 : g ≠ 139) (hi : i < oS (cb S base n)) (hiS : isS (cb S base n) i = true) (hN : sN (cb S base n) i < 2 ^ 20) (hP : oP (cb S base n) i < 2 ^ 29) : ∀ (d j f : Nat) (τ : px_TT), cS sk L τ q g base n S → j + d = sN (cb S base n) i → d < f → MK (cb S base n) n i j (eI τ 139) → ∃ M', (if al (sOK (cb S base n) i) j d = true then f_ObjectFile_areSitesGood_90 F c k21 f q 139 (nI i) (nI (oI (cb S base n) i)) (nI (sN (cb S base n) i)) (nI (oP (cb S base n) i)) (nI j) (cH sk L τ) = k21 q 139 (nI (i + 1)) (cH sk L (vI τ 139 M')) ∧ MK (cb S base n) n (i + 1) 0 M' else f_ObjectFile_areSitesGood_90 F c k21 f q 139 (nI i) (nI (oI (cb S base n) i)) (nI (sN (cb S base n) i)) (nI (oP (cb S base n) i)) (nI j) (cH sk L τ) = some (nI 0, cH sk L (vI τ 139 M'))) := by
  intro d
  induction d with
  | zero =>
    intro j f τ hs hj hf hM
    obtain ⟨f, rfl⟩ : ∃ g, f = g + 1 := ⟨f - 1, by omega⟩
    refine ⟨eI τ 139, ?_⟩
    rw [if_pos (show al (sOK (cb S base n) i) j 0 = true from rfl)]
    unfold f_ObjectFile_areSitesGood_90
    rw [if_pos (nI_le (by omega) (by omega)), vI_self]
    refine ⟨?_, ?_⟩
    · rw [f_ObjectFile_areSitesGood_122, nI_add]
    · rw [show j = sN (cb S base n) i by omega] at hM
      exact MK_row hM
  | succ d ih =>
    intro j f τ hs hj hf hM
    obtain ⟨f, rfl⟩ : ∃ g, f = g + 1 := ⟨f - 1, by omega⟩
    obtain ⟨M1, h1, h2⟩ := k_isSiteGood (c := c) hs hF hT0 hm hn hg139 hi hiS (show j < sN (cb S base n) i by omega) hM
    unfold f_ObjectFile_areSitesGood_90
    rw [if_neg (nI_ge (by omega) (by omega)), c_o hs.1.1.1.1, bs, pk_mul, nI_add, show oP (cb S base n) i + 24 * j = sP (cb S base n) i j from rfl, h1, xb_mk, nI_add, al_s]
    by_cases c1 : sOK (cb S base n) i j = true
    · rw [c1, if_neg (show ¬ bI true = 0 by decide), Bool.true_and]
      have hs' : cS sk L (vI τ 139 M1) q g base n S := cS_fr hs (frO_m q g τ M1) (fun _ _ => rfl) (u1_ne hg139)
      obtain ⟨M', h3⟩ := ih (j + 1) f (vI τ 139 M1) hs' (by omega) (by omega) (by
        show MK (cb S base n) n i (j + 1) (u1 τ.2.2.2.1 139 M1 139)
        rw [u1_eq]
        exact h2 c1)
      refine ⟨M', ?_⟩
      rw [vI_vI] at h3
      exact h3
    · have c2 := Bool.eq_false_iff.mpr c1
      refine ⟨M1, ?_⟩
      rw [c2, if_pos (show bI false = 0 from rfl), Bool.false_and, if_neg (show ¬ false = true by decide)]
      rfl
theorem k_aSG_21 (hF : 65536 < F) (hT0 : oT (cb S base n) 0 = 0) (hm : ar sk L 1 8192 139) (hn : n ≤ 8192) (hg139 : g ≠ 139) : ∀ (d i f : Nat) (τ : px_TT), cS sk L τ q g base n S → i + d = oS (cb S base n) → d < f → MK (cb S base n) n i 0 (eI τ 139) → ∃ M', f_ObjectFile_areSitesGood_21 F c f q 139 (nI i) (cH sk L τ) = some (bI (al (fun i => !isS (cb S base n) i || sSec (cb S base n) i) i d), cH sk L (vI τ 139 M')) := by
  intro d
  induction d with
  | zero =>
    intro i f τ hs hi hf hM
    obtain ⟨f, rfl⟩ : ∃ g, f = g + 1 := ⟨f - 1, by omega⟩
    have h24 := hs.1.1.2.1.2.2
    refine ⟨eI τ 139, ?_⟩
    unfold f_ObjectFile_areSitesGood_21
    rw [C7g8 hs.1.1.1.1, bs, hs.1.1.2.2.2.2, if_pos (nI_le (by omega) (by omega)), vI_self]
    rfl
  | succ d ih =>
    intro i f τ hs hi hf hM
    obtain ⟨f, rfl⟩ : ∃ g, f = g + 1 := ⟨f - 1, by omega⟩
    have h24 := hs.1.1.2.1.2.2
    have o1 := hs.1.1.1.1
    have hF8 : 8 < F := by omega
    have hiS : i < oS (cb S base n) := by omega
    have hs1 := hs.1.1.2.2.1
    have hy := oY_lt hs1
    unfold f_ObjectFile_areSitesGood_21
    rw [C7g8 o1, bs, hs.1.1.2.2.2.2, if_neg (nI_ge (by omega) (by omega)), c_o o1, bs, k_targetOf hs.1 hF8 hiS, xb_mk, al_s]
    by_cases c1 : isS (cb S base n) i = true
    · have hS := isS_T c1
      have hZ := w1_s hs.2.2.1 hiS hS.1
      have hL := oL_lt (cb_lt S base n) i
      have hZ63 : oZ (cb S base n) i ≤ 8192 := by
        generalize oZ (cb S base n) i = z at *
        generalize oP (cb S base n) i = y at *
        omega
      have hP : oP (cb S base n) i ≤ 8192 := by
        generalize oZ (cb S base n) i = z at *
        generalize oP (cb S base n) i = y at *
        omega
      have hN : sN (cb S base n) i ≤ 8192 := by
        unfold sN
        generalize oZ (cb S base n) i = z at *
        omega
      have hI : oI (cb S base n) i < 24 := Nat.lt_of_lt_of_le hS.2.1 h24
      have esN : f_ObjectFile_sitesOf F c q (nI i) (cH sk L τ) = some (nI (sN (cb S base n) i), cH sk L τ) := by
        unfold f_ObjectFile_sitesOf
        rw [c_o o1, bs, k_Z hs.1.1 hF8 hiS, xb_mk, show (24 : Int64) = lN 24 from rfl, pk_lDiv (by omega) (by decide) (by decide), lN_i]
        simp only [sN]
      rw [c1, if_pos rfl, if_pos (show (0 : Int32) ≤ nI (oI (cb S base n) i) from nI_pos' (by omega)), c_o o1, bs, k_Z hs.1.1 hF8 hiS, xb_mk, c_o o1, bs, k_L hs.1.1 hF8 hiS, xb_mk, C7g9 o1, bs, hs.2.1.1, c_o o1, bs, esN, xb_mk, c_o o1, bs, k_P hs.1.1 hF8 hiS, xb_mk, lN_i, Bool.not_true, Bool.false_or]
      simp only [lk, pk_lRem (show oZ (cb S base n) i < 2 ^ 63 by omega) (show 0 < 24 by decide) (show 24 < 2 ^ 63 by decide), lEQ (show oZ (cb S base n) i % 24 < 2 ^ 64 by omega) (show 0 < 2 ^ 64 by decide), f_ObjectFile_areSitesGood_70]
      have ey : (lN (oL (cb S base n) i) = (yS (cb S base n)).toInt64) ↔ (oY (cb S base n) ≠ 0 ∧ oL (cb S base n) i = oY (cb S base n)) := by
        unfold yS
        by_cases e : oY (cb S base n) = 0
        · rw [if_pos e]
          constructor
          · intro h
            exfalso
            have h2 := congrArg Int64.toInt h
            rw [pk_lT (by omega), show (Int32.ofInt (-1)).toInt64.toInt = -1 from by decide] at h2
            omega
          · intro h; exact absurd e h.1
        · rw [if_neg e, nI_l (by omega), lEQ (by omega) (by omega)]
          exact ⟨fun h => ⟨e, h⟩, fun h => h.2⟩
      simp only [ey]
      unfold sSec
      by_cases d1 : oZ (cb S base n) i % 24 = 0
      · rw [if_pos d1]
        by_cases d2 : oY (cb S base n) ≠ 0 ∧ oL (cb S base n) i = oY (cb S base n)
        · rw [if_pos d2, decide_eq_true (show oZ (cb S base n) i % 24 = 0 ∧ oY (cb S base n) ≠ 0 ∧ oL (cb S base n) i = oY (cb S base n) from ⟨d1, d2⟩), Bool.true_and]
          obtain ⟨M', h1⟩ := k_aSG_90 (c := c) (sk := sk) (L := L) (q := q) (g := g) (base := base) (n := n) (S := S) (k21 := f_ObjectFile_areSitesGood_21 F c f) (show 24 < F by omega) hT0 hm hn hg139 hiS c1 (by omega) (by omega) (sN (cb S base n) i) 0 F τ hs (by omega) (by omega) hM
          by_cases d3 : al (sOK (cb S base n) i) 0 (sN (cb S base n) i) = true
          · rw [if_pos d3] at h1
            have hs' : cS sk L (vI τ 139 M') q g base n S := cS_fr hs (frO_m q g τ M') (fun _ _ => rfl) (u1_ne hg139)
            obtain ⟨M2, h2⟩ := ih (i + 1) f (vI τ 139 M') hs' (by omega) (by omega) (by
              show MK (cb S base n) n (i + 1) 0 (u1 τ.2.2.2.1 139 M' 139)
              rw [u1_eq]
              exact h1.2)
            refine ⟨M2, ?_⟩
            rw [h1.1, h2, vI_vI, d3, Bool.true_and]
            rfl
          · rw [if_neg d3] at h1
            refine ⟨M', ?_⟩
            rw [h1, Bool.eq_false_iff.mpr d3, Bool.false_and]
            rfl
        · rw [if_neg d2, decide_eq_false (fun e => d2 e.2), Bool.false_and, Bool.false_and]
          exact ⟨eI τ 139, by rw [vI_self]; rfl⟩
      · rw [if_neg d1, decide_eq_false (fun e => d1 e.1), Bool.false_and, Bool.false_and]
        exact ⟨eI τ 139, by rw [vI_self]; rfl⟩
    · have c2 := Bool.eq_false_iff.mpr c1
      rw [c2, if_neg (show ¬ false = true by decide), if_neg (show ¬ (0 : Int32) ≤ Int32.ofInt (-1) by decide), f_ObjectFile_areSitesGood_122, nI_add, Bool.not_false, Bool.true_or, Bool.true_and]
      exact ih (i + 1) f τ hs (by omega) (by omega) (MK_skip hM c2)
theorem k_areSitesGood (hs : cS sk L τ q g base n S) (hF : 65536 < F) (hT0 : oT (cb S base n) 0 = 0) (hm : ar sk L 1 8192 139) (hn : n ≤ 8192) (hg139 : g ≠ 139) : ∃ M', f_ObjectFile_areSitesGood F c q 139 (cH sk L τ) = some (bI (decide (eSit (cb S base n) = 0)), cH sk L (vI τ 139 M')) := by
  have h8 := hs.1.1.1.2.2.2.2.2.2.2.1
  have hs1 := hs.1.1.2.2.1
  have h24 := hs.1.1.2.1.2.2
  unfold f_ObjectFile_areSitesGood
  rw [C7g6 hs.1.1.1.1, bs, h8, c_l hm (by decide), bs, if_neg (nI_nlt (Nat.zero_le n) (by omega)), if_neg (nI_nlt hn (by decide))]
  unfold f_Arrays_fill f_Arrays_rangeCheck
  rw [c_l hm (by decide), bs, if_pos (nI_le (Nat.zero_le n) (by omega)), if_pos (by decide), if_pos (nI_le hn (by decide)), xb_mk]
  obtain ⟨M0, h1, h2⟩ := k_fill_10 (F := F) (c := c) (sk := sk) (L := L) (v := nI 0) hm hn n 0 F τ (by omega) (by omega) (fun x h => absurd h (Nat.not_lt_zero x))
  rw [h2, xb_mk]
  have hs' : cS sk L (vI τ 139 M0) q g base n S := cS_fr hs (frO_m q g τ M0) (fun _ _ => rfl) (u1_ne hg139)
  obtain ⟨M', h3⟩ := k_aSG_21 (c := c) hF hT0 hm hn hg139 (oS (cb S base n)) 0 F (vI τ 139 M0) hs' (by omega) (by omega) (by
    show MK (cb S base n) n 0 0 (u1 τ.2.2.2.1 139 M0 139)
    rw [u1_eq]
    exact MK_0 h1)
  refine ⟨M', ?_⟩
  rw [h3, vI_vI]
  have e : al (fun i => !isS (cb S base n) i || sSec (cb S base n) i) 0 (oS (cb S base n)) = al (fun i => !isS (cb S base n) i || sSec (cb S base n) i) 1 (oS (cb S base n) - 1) := by
    obtain ⟨s, hs'⟩ : ∃ s, oS (cb S base n) = s + 1 := ⟨oS (cb S base n) - 1, by omega⟩
    rw [hs', al_s, Nat.add_sub_cancel]
    have : isS (cb S base n) 0 = false := decide_eq_false (fun d => by have := d.1; rw [hT0] at this; exact absurd this (by decide))
    rw [this]
    rfl
  rw [e]
  unfold eSit
  by_cases c1 : al (fun i => !isS (cb S base n) i || sSec (cb S base n) i) 1 (oS (cb S base n) - 1) = true
  · rw [if_pos c1, c1, decide_eq_true rfl]
  · rw [if_neg c1, Bool.eq_false_iff.mpr c1, decide_eq_false (show ¬ (7 : Nat) = 0 by decide)]
end CSJ
