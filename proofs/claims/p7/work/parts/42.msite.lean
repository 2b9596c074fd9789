/-! the reference's errors of sites: the loops -/
section SIT3
variable {F : Nat} {h : px_H} {m o n : Nat} {B : Nat → Int32}
theorem q_isSite_113 {i j w p t : Nat} (hb : mb h m B) (hF : 65536 < F) (hw : w1 (cb B o n) n) (hn : o + n ≤ 65536) (hi : i < oS (cb B o n)) (ht : oI (cb B o n) i = t) (ht2 : t < 2 ^ 31) (hw0 : wd (sH (cb B o n) i j) = w) (hw1 : w ≤ 8) (hp : sP (cb B o n) i j = p) (hpp : p + 24 ≤ n) (hL : sL (cb B o n) i j ≤ 16384) (hj : j ≤ sN (cb B o n) i) (hB : ∀ a, 1 ≤ a → a ≤ i → sB4 (cb B o n) i j a) : ∀ (c a f : Nat) (fr : Bool), a + c = i + 1 → 1 ≤ a → c < f → f_M_isSite_113 F f m (nI o) (nI i) (nI j) (nI (o + p)) (nI w) (nI t) (bI fr) (nI a) h = some (bI (fr && al (sFr (cb B o n) i j) a c), h) := by
  obtain ⟨fs, h1⟩ := mb_o hb
  have ho := w1_rk hw hn
  have hs := hw.2.1.2
  have hF8 : 8 < F := by omega
  have k0 : (0 : Int32) = nI 0 := rfl
  intro c
  induction c with
  | zero =>
    intro a f fr ha h1a hf
    obtain ⟨f, rfl⟩ : ∃ g, f = g + 1 := ⟨f - 1, by omega⟩
    unfold f_M_isSite_113
    rw [if_pos (nI_lt (by omega) (by omega)), f_M_isSite_274, xz_b, show al (sFr (cb B o n) i j) a 0 = true from rfl, Bool.and_true]
  | succ c ih =>
    intro a f fr ha h1a hf
    obtain ⟨f, rfl⟩ : ∃ g, f = g + 1 := ⟨f - 1, by omega⟩
    have haS : a < oS (cb B o n) := by omega
    have e2 := oI_lt (cb_lt B o n) a
    unfold f_M_isSite_113
    rw [if_neg (nI_nlt (by omega) (by omega)), h1, bs, q_isSites hb hF8 ho haS, xb_mk, h1, bs, q_info hb hF8 ho haS, xb_mk]
    simp only [k0, bI_0, nI_l ht2, lEQ (show oI (cb B o n) a < 2 ^ 64 by omega) (show t < 2 ^ 64 by omega), f_M_isSite_268, nI_add]
    rw [ih (a + 1) f fr (by omega) (by omega) (by omega), al_s, ← Bool.and_assoc]
    by_cases c1 : isS (cb B o n) a = true
    · rw [if_neg (by rw [c1]; decide)]
      by_cases c2 : oI (cb B o n) a = t
      · have c3 : (if a < i then sN (cb B o n) a else j) ≤ 65536 := by
          have hZa := w1_s hw haS (isS_T c1).1
          have h9 : sN (cb B o n) a ≤ 65536 := by
            unfold sN
            generalize oZ (cb B o n) a = z at *
            generalize oP (cb B o n) a = y at *
            omega
          by_cases c : a < i
          · rw [if_pos c]; exact h9
          · rw [if_neg c]
            have : a = i := by omega
            rw [this] at h9
            omega
        rw [if_pos c2, q_isSite_149 (k := f_M_isSite_113 F f) hb hF8 hw hn hi (by omega) h1a c1 (by rw [c2, ht]) hw0 hw1 hp hpp hL (hB a h1a (by omega)) hj (if a < i then sN (cb B o n) a else j) 0 F fr (by omega) (by omega), ih (a + 1) f _ (by omega) (by omega) (by omega), show sFr (cb B o n) i j a = al (sFree (cb B o n) i j a) 0 (if a < i then sN (cb B o n) a else j) by unfold sFr; rw [c1, decide_eq_true (show oI (cb B o n) a = oI (cb B o n) i by rw [c2, ht])]; rfl]
      · rw [if_neg c2, show sFr (cb B o n) i j a = true by unfold sFr; rw [decide_eq_false (show ¬ oI (cb B o n) a = oI (cb B o n) i by rw [ht]; exact c2), Bool.and_false]; rfl, Bool.and_true]
    · have c1' : isS (cb B o n) a = false := by cases hq : isS (cb B o n) a <;> simp_all
      rw [if_pos c1', show sFr (cb B o n) i j a = true by unfold sFr; rw [c1', Bool.false_and]; rfl, Bool.and_true]
theorem q_isSite {i j : Nat} (hb : mb h m B) (hF : 65536 < F) (hw : w2 (cb B o n) n) (hn : o + n ≤ 65536) (hi : i < oS (cb B o n)) (hiS : isS (cb B o n) i = true) (hj : j < sN (cb B o n) i) (hB : ∀ a, 1 ≤ a → a ≤ i → sB4 (cb B o n) i j a) : f_M_isSite F m (nI o) (nI i) (nI j) h = some (bI (sOK (cb B o n) i j), h) := by
  obtain ⟨fs, h1⟩ := mb_o hb
  have ho := w1_rk hw.1 hn
  have hs := hw.1.2.1.2
  have hF8 : 8 < F := by omega
  have hS := isS_T hiS
  have hp := w1_sp hw.1 hi hS.1 hj
  have hM := w2_M hw
  have k0 : (0 : Int32) = nI 0 := rfl
  have eI := oI_lt (cb_lt B o n) i
  have eY := sY_lt (cb_lt B o n) i j
  have eL := sL_lt (cb_lt B o n) i j
  have hz := hw.1.2.2.2.2 _ hS.2.1 hS.2.2
  have eT := oT_lt (cb_lt B o n) (oI (cb B o n) i)
  unfold f_M_isSite
  rw [h1, bs, q_site hb hF8 ho hi, xb_mk, h1, bs, nI_add, q_sH hb hF8 hn hp, xb_mk, show le (cb B o n) (sP (cb B o n) i j + 8) 4 = sH (cb B o n) i j from rfl, q_width (sH_lt (cb_lt B o n) i j), xb_mk, h1, bs, q_info hb hF8 ho hi, xb_mk, h1, bs, nI_add, q_sY hb hF8 hn hp, xb_mk, show le (cb B o n) (sP (cb B o n) i j + 12) 4 = sY (cb B o n) i j from rfl, h1, bs, q_symbolMany hb (by omega) ho hw.1.2.1.1 (w2_z hw), xb_mk, lN_i]
  simp only [wI_n0, nI_l (show oM (cb B o n) < 2 ^ 31 by omega), pk_lLT (show sY (cb B o n) i j < 2 ^ 63 by omega) (show oM (cb B o n) < 2 ^ 63 by omega), k0, wI_0, h1, bs, q_type hb hF8 ho hS.2.1, xb_mk, lk, lEQ (show oT (cb B o n) (oI (cb B o n) i) < 2 ^ 64 by omega) (show 8 < 2 ^ 64 by decide), q_sL hb hF8 hn hp, q_size hb hF8 ho hS.2.1, f_M_isSite_58, f_M_isSite_105]
  rw [show le (cb B o n) (sP (cb B o n) i j) 8 = sL (cb B o n) i j from rfl]
  unfold sOK sOK0
  by_cases c1 : wd (sH (cb B o n) i j) = 16
  · rw [if_pos c1, decide_eq_false (fun q => q.1 c1), Bool.false_and]
    rfl
  · rw [if_neg c1]
    by_cases c2 : sY (cb B o n) i j < oM (cb B o n)
    · rw [if_pos c2]
      by_cases c3 : wd (sH (cb B o n) i j) = 0
      · rw [if_pos c3, decide_eq_true (show wd (sH (cb B o n) i j) ≠ 16 ∧ sY (cb B o n) i j < oM (cb B o n) ∧ _ from ⟨c1, c2, Or.inl c3⟩), decide_eq_true c3, Bool.true_or, Bool.true_and]
        rfl
      · rw [if_neg c3, wI_l c1, q_lies eL (Nat.lt_of_le_of_lt (wd_le c1) (by decide)) (Nat.lt_of_le_of_lt hz (by decide)), xb_mk]
        simp only [bI_0, decide_eq_false_iff_not]
        by_cases c4 : oT (cb B o n) (oI (cb B o n) i) = 8
        · rw [if_pos c4, decide_eq_false (fun q => q.2.2.elim c3 (fun g => g.1 c4)), Bool.false_and]
          rfl
        · rw [if_neg c4]
          by_cases c5 : sL (cb B o n) i j + wd (sH (cb B o n) i j) ≤ oZ (cb B o n) (oI (cb B o n) i)
          · have hL : sL (cb B o n) i j ≤ 16384 := Nat.le_trans (Nat.le_trans (Nat.le_add_right _ _) c5) hz
            rw [if_neg (fun q => q c5), show wI (sH (cb B o n) i j) = nI (wd (sH (cb B o n) i j)) by unfold wI; rw [if_neg c1], show nI 1 = bI true from rfl, show (bI true : Int32) = bI true from rfl]
            have e := q_isSite_113 hb hF hw.1 hn hi rfl (show oI (cb B o n) i < 2 ^ 31 by omega) rfl (wd_le c1) rfl hp hL (by omega) hB i 1 F true (by omega) (by omega) (by omega)
            rw [show nI 1 = bI true from rfl] at e
            rw [e, decide_eq_true (show wd (sH (cb B o n) i j) ≠ 16 ∧ sY (cb B o n) i j < oM (cb B o n) ∧ _ from ⟨c1, c2, Or.inr ⟨c4, c5⟩⟩), decide_eq_false c3, Bool.false_or]
          · rw [if_pos c5, decide_eq_false (fun q => q.2.2.elim c3 (fun g => c5 g.2)), Bool.false_and]
            rfl
    · rw [if_neg c2, decide_eq_false (fun q => c2 q.2.1), Bool.false_and]
      rfl
theorem al_iff {p : Nat → Bool} : ∀ {c i : Nat}, al p i c = true ↔ ∀ x, i ≤ x → x < i + c → p x = true
  | 0, i => ⟨fun _ x h1 h2 => absurd h2 (by omega), fun _ => rfl⟩
  | c + 1, i => by
    rw [al_s, Bool.and_eq_true, @al_iff p c (i + 1)]
    constructor
    · intro h x h1 h2
      by_cases e : x = i
      · rw [e]; exact h.1
      · exact h.2 x (by omega) (by omega)
    · intro h
      exact ⟨h i (by omega) (by omega), fun x h1 h2 => h x (by omega) (by omega)⟩
theorem sOK_0 {b : Nat → Nat} {i j : Nat} (h : sOK b i j = true) : sOK0 b i j = true := by
  unfold sOK at h
  exact ((Bool.and_eq_true _ _).mp h).1
theorem q_sitesError_67 {i : Nat} {k : Nat → Int32 → Int32 → px_H → Option (Int32 × px_H)} (hb : mb h m B) (hF : 65536 < F) (hw : w2 (cb B o n) n) (hn : o + n ≤ 65536) (hi : i < oS (cb B o n)) (hiS : isS (cb B o n) i = true) (hA : ∀ a, 1 ≤ a → a < i → isS (cb B o n) a = true → ∀ c, c < sN (cb B o n) a → sOK0 (cb B o n) a c = true) : ∀ (c j f : Nat), j + c = sN (cb B o n) i → c < f → (∀ x, x < j → sOK0 (cb B o n) i x = true) → f_M_sitesError_67 F k f m (nI o) (nI i) (nI j) h = if al (sOK (cb B o n) i) j c = true then k m (nI o) (nI (i + 1)) h else some (nI 7, h) := by
  obtain ⟨fs, h1⟩ := mb_o hb
  have ho := w1_rk hw.1 hn
  have hF8 : 8 < F := by omega
  have hS := isS_T hiS
  have k0 : (0 : Int32) = nI 0 := rfl
  have hZ := w1_s hw.1 hi hS.1
  have hZ63 : oZ (cb B o n) i < 2 ^ 63 := by
    generalize oZ (cb B o n) i = z at *
    generalize oP (cb B o n) i = y at *
    omega
  have hN : sN (cb B o n) i ≤ 65536 := by
    unfold sN
    generalize oZ (cb B o n) i = z at *
    generalize oP (cb B o n) i = y at *
    omega
  intro c
  induction c with
  | zero =>
    intro j f hj hf hx
    obtain ⟨f, rfl⟩ : ∃ g, f = g + 1 := ⟨f - 1, by omega⟩
    unfold f_M_sitesError_67
    rw [h1, bs, q_siteMany hb hF8 ho hi hZ63, xb_mk, if_pos (nI_le (by omega) (by omega)), f_M_sitesError_96, nI_add]
    rfl
  | succ c ih =>
    intro j f hj hf hx
    obtain ⟨f, rfl⟩ : ∃ g, f = g + 1 := ⟨f - 1, by omega⟩
    have hB : ∀ a, 1 ≤ a → a ≤ i → sB4 (cb B o n) i j a := by
      intro a h1a hai hq _ c hc
      by_cases e : a < i
      · rw [if_pos e] at hc
        exact hA a h1a e hq c hc
      · rw [if_neg e] at hc
        have : a = i := by omega
        rw [this]
        exact hx c hc
    unfold f_M_sitesError_67
    rw [h1, bs, q_siteMany hb hF8 ho hi hZ63, xb_mk, if_neg (nI_ge (by omega) (by omega)), h1, bs, q_isSite hb hF hw hn hi hiS (by omega) hB, xb_mk, nI_add, al_s]
    by_cases c1 : sOK (cb B o n) i j = true
    · rw [c1, if_neg (by decide), Bool.true_and]
      refine ih (j + 1) f (by omega) (by omega) ?_
      intro x hxj
      by_cases e : x = j
      · rw [e]; exact sOK_0 c1
      · exact hx x (by omega)
    · have c2 : sOK (cb B o n) i j = false := Bool.eq_false_iff.mpr c1
      rw [c2, if_pos (show bI false = 0 from rfl), Bool.false_and]
      rfl
theorem q_sitesError_2 (hb : mb h m B) (hF : 65536 < F) (hw : w2 (cb B o n) n) (hn : o + n ≤ 65536) : ∀ (c i f : Nat), i + c = oS (cb B o n) → 1 ≤ i → c < f → (∀ a, 1 ≤ a → a < i → isS (cb B o n) a = true → ∀ c, c < sN (cb B o n) a → sOK0 (cb B o n) a c = true) → f_M_sitesError_2 F f m (nI o) (nI i) h = some (nI (if al (fun i => !isS (cb B o n) i || sSec (cb B o n) i) i c = true then 0 else 7), h) := by
  obtain ⟨fs, h1⟩ := mb_o hb
  have ho := w1_rk hw.1 hn
  have hs := hw.1.2.1.1
  have hs2 := hw.1.2.1.2
  have hy := oY_lt hs
  have hF8 : 8 < F := by omega
  have k0 : (0 : Int32) = nI 0 := rfl
  intro c
  induction c with
  | zero =>
    intro i f hi h1i hf hA
    obtain ⟨f, rfl⟩ : ∃ g, f = g + 1 := ⟨f - 1, by omega⟩
    unfold f_M_sitesError_2
    rw [h1, bs, q_sections hb hF8 ho.1, xb_mk, if_pos (nI_le (by omega) (by omega))]
    rfl
  | succ c ih =>
    intro i f hi h1i hf hA
    obtain ⟨f, rfl⟩ : ∃ g, f = g + 1 := ⟨f - 1, by omega⟩
    have hi2 : i < oS (cb B o n) := by omega
    unfold f_M_sitesError_2
    rw [h1, bs, q_sections hb hF8 ho.1, xb_mk, if_neg (nI_ge (by omega) (by omega)), h1, bs, q_isSites hb hF8 ho hi2, xb_mk, al_s]
    simp only [f_M_sitesError_96, f_M_sitesError_62, nI_add, k0, bI_0, h1, bs, q_size hb hF8 ho hi2, xb_mk, q_symbols hb (show 24 < F by omega) ho hs, q_linkOf hb hF8 ho hi2, nI_l (show oY (cb B o n) < 2 ^ 31 by omega)]
    by_cases c1 : isS (cb B o n) i = true
    · have hS := isS_T c1
      have hZ := w1_s hw.1 hi2 hS.1
      have hL := oL_lt (cb_lt B o n) i
      have hZ63 : oZ (cb B o n) i < 2 ^ 63 := by
        generalize oZ (cb B o n) i = z at *
        generalize oP (cb B o n) i = y at *
        omega
      have hN : sN (cb B o n) i ≤ 65536 := by
        unfold sN
        generalize oZ (cb B o n) i = z at *
        generalize oP (cb B o n) i = y at *
        omega
      rw [q_sitesError_67 (k := f_M_sitesError_2 F f) hb hF hw hn hi2 c1 hA (sN (cb B o n) i) 0 F (by omega) (by omega) (fun x hx => absurd hx (Nat.not_lt_zero _))]
      simp only [lk, pk_lRem hZ63 (show 0 < 24 by decide) (show 24 < 2 ^ 63 by decide), lEQ (show oZ (cb B o n) i % 24 < 2 ^ 64 from Nat.lt_of_lt_of_le (Nat.mod_lt _ (by decide)) (by decide)) (show 0 < 2 ^ 64 by decide), nI_eq (show oY (cb B o n) < 2 ^ 31 by omega) (show 0 < 2 ^ 31 by decide), lEQ (show oL (cb B o n) i < 2 ^ 64 by omega) (show oY (cb B o n) < 2 ^ 64 by omega)]
      rw [if_neg (show ¬ isS (cb B o n) i = false by rw [c1]; decide), c1, Bool.not_true, Bool.false_or]
      unfold sSec
      by_cases d1 : oZ (cb B o n) i % 24 = 0
      · by_cases d2 : oY (cb B o n) = 0
        · rw [if_pos d1, if_pos d2, decide_eq_false (fun q => q.2.1 d2), Bool.false_and, Bool.false_and]
          rfl
        · by_cases d3 : oL (cb B o n) i = oY (cb B o n)
          · rw [if_pos d1, if_neg d2, if_pos d3, decide_eq_true (show oZ (cb B o n) i % 24 = 0 ∧ oY (cb B o n) ≠ 0 ∧ oL (cb B o n) i = oY (cb B o n) from ⟨d1, d2, d3⟩), Bool.true_and]
            by_cases d4 : al (sOK (cb B o n) i) 0 (sN (cb B o n) i) = true
            · rw [if_pos d4, d4, Bool.true_and]
              refine ih (i + 1) f (by omega) (by omega) (by omega) ?_
              intro a h1a ha hq c hc
              by_cases e : a = i
              · rw [e] at hc ⊢
                exact sOK_0 (al_iff.mp d4 c (Nat.zero_le _) (by omega))
              · exact hA a h1a (by omega) hq c hc
            · rw [if_neg d4, Bool.eq_false_iff.mpr d4, Bool.false_and]
              rfl
          · rw [if_pos d1, if_neg d2, if_neg d3, decide_eq_false (fun q => d3 q.2.2), Bool.false_and, Bool.false_and]
            rfl
      · rw [if_neg d1, decide_eq_false (fun q => d1 q.1), Bool.false_and, Bool.false_and]
        rfl
    · have c2 : isS (cb B o n) i = false := Bool.eq_false_iff.mpr c1
      rw [if_pos c2, c2, Bool.not_false, Bool.true_or, Bool.true_and]
      refine ih (i + 1) f (by omega) (by omega) (by omega) ?_
      intro a h1a ha hq
      by_cases e : a = i
      · rw [e] at hq; exact absurd hq c1
      · exact hA a h1a (by omega) hq
theorem q_sitesError (hb : mb h m B) (hF : 65536 < F) (hw : w2 (cb B o n) n) (hn : o + n ≤ 65536) : f_M_sitesError F m (nI o) h = some (nI (eSit (cb B o n)), h) := by
  unfold f_M_sitesError eSit
  have := hw.1.2.1.1
  have := hw.1.2.1.2
  exact q_sitesError_2 hb hF hw hn (oS (cb B o n) - 1) 1 F (by omega) (by omega) (by omega) (fun a h1 h2 => absurd h2 (by omega))
end SIT3
