/-! the class's readFile, clearFile, add -/
section CAD
variable {F : Nat} {c : px_CT} {sk : Nat → Nat × Nat × Nat} {L : Nat} {τ : px_TT} {n fl ss : Nat} {b : Nat → Nat}
/-- behind the copy of the tape into the store -/
def cpd (τ : px_TT) (ss n : Nat) : px_TT := tI (vI τ 8 (put (eI τ 8) (eI τ 2) ss n)) 7 1 (nI (ss + n))
theorem cpd_I {a k : Nat} (h : a ≠ 7 ∨ k ≠ 1) : fI (cpd τ ss n) a k = fI τ a k := u2_ne h
theorem cpd_7 : fI (cpd τ ss n) 7 1 = nI (ss + n) := (u2_eq : u2 τ.1 7 1 (nI (ss + n)) 7 1 = _)
theorem cpd_8 : eI (cpd τ ss n) 8 = put (eI τ 8) (eI τ 2) ss n := (u1_eq : u1 τ.2.2.2.1 8 (put (eI τ 8) (eI τ 2) ss n) 8 = _)
theorem cpd_e {a : Nat} (h : a ≠ 8) : eI (cpd τ ss n) a = eI τ a := u1_ne h
theorem GR_c (h : GR τ) : GR (cpd τ ss n) := ⟨h.1, fun i hi => ⟨(h.2.1 i hi).1, (h.2.1 i hi).2.1, (h.2.1 i hi).2.2.1, (cpd_I (Or.inl (by omega))).trans (h.2.1 i hi).2.2.2.1, (cpd_I (Or.inl (by omega))).trans (h.2.1 i hi).2.2.2.2⟩, h.2.2⟩
theorem CTp_c (h : CTp τ n b) : CTp (cpd τ ss n) n b := ⟨(cpd_I (Or.inl (by decide))).trans h.1, h.2.1, by rw [cpd_e (by decide)]; exact h.2.2.1, by rw [cpd_e (by decide)]; exact h.2.2.2⟩
theorem k_readFile (hc : KT c) (hS : GS sk L) (hR : GR τ) (hF : 65536 < F) (hfl : fl < 8) (ht : CTp τ n b) (h7 : fI τ 7 1 = nI ss) (hss : ss + n ≤ 65536) (hB : ∀ k, isB (eI τ 8 k)) (hz : ∀ j, j < 8 → fI τ (10 + 2 * (8 * fl + j)) 4 = nI 0) : ∃ τ', f_H_readFile F c 0 (nI (8 * fl)) (cH sk L τ) = some (nI (eFil b n), cH sk L τ') ∧ frF fl (cpd τ ss n) τ' ∧ (eFil b n = 0 → ∃ l, fMem b n = some l ∧ mD sk L τ' fl ss (isAr b n) (put (eI τ 8) (eI τ 2) ss n) 0 l) := by
  have hn := ht.2.1
  have hR0 := GR_c (ss := ss) (n := n) hR
  have ht0 := CTp_c (ss := ss) ht
  have hS' : ∀ k, isB (put (eI τ 8) (eI τ 2) ss n k) := put_B hB ht.2.2.1
  have hcb : cb (put (eI τ 8) (eI τ 2) ss n) ss n = b := by rw [put_same]; exact ht.2.2.2
  have hb := ct_lt ht
  unfold f_H_readFile
  rw [C0r3 (G0 hS) (R0_3 hR), bs, C10g1 (G7 hS), bs, h7, bs, C0r0 (G0 hS) (R0_0 hR), bs, C10r0 (G1 hS) (R1_0 hR), bs, bs, C10g1 (G1 hS), bs, ht.1, c_o (G7 hS), bs, k_copy hS hR ht h7 hss, xb_mk, show tI (vI τ 8 (put (eI τ 8) (eI τ 2) ss n)) 7 1 (nI (ss + n)) = cpd τ ss n from rfl, C0r0 (G0 hS) (R0_0 hR0), bs, C10g1 (G1 hS), bs, ht0.1, xkl_at hc.1.2 (by decide), bs, bs, c_o (G1 hS), bs]
  -- an object
  have obj : isAr b n = false → ∃ τ', f_H_readFile_64 F c 0 (nI (8 * fl)) (nI ss) (cH sk L (cpd τ ss n)) = some (nI (eFil b n), cH sk L τ') ∧ frF fl (cpd τ ss n) τ' ∧ (eFil b n = 0 → ∃ l, fMem b n = some l ∧ mD sk L τ' fl ss (isAr b n) (put (eI τ 8) (eI τ 2) ss n) 0 l) := by
    intro har
    have hq := G_of hS (show 8 * fl < 64 by omega)
    have hgq := G_og hS (show 8 * fl < 64 by omega)
    have e9 : eN (cpd τ ss n) 9 (8 * fl) = some (10 + 2 * (8 * fl)) := (hR0.2.1 (8 * fl) (by omega)).2.2.1
    have fro : frF fl (cpd τ ss n) (opn (cpd τ ss n) (10 + 2 * (8 * fl)) 1 ss n) := opn_F (k := 0) (by decide)
    have hR1 := GR_F hR0 fro
    have e9' : eN (opn (cpd τ ss n) (10 + 2 * (8 * fl)) 1 ss n) 9 (8 * fl) = some (10 + 2 * (8 * fl)) := e9
    have o := opn_at (τ := cpd τ ss n) (q := 10 + 2 * (8 * fl)) (kind := 1) (base := ss) (m := n)
    have hcO : cO sk L (opn (cpd τ ss n) (10 + 2 * (8 * fl)) 1 ss n) (10 + 2 * (8 * fl)) ss n (put (eI τ 8) (eI τ 2) ss n) := ⟨hq, (hR1.2.1 _ (by omega)).1, G7 hS, R7_0 hR1, G8 hS, cpd_8, o.2.1, o.2.2.1, hss, hS'⟩
    obtain ⟨τ1, f1, f2, f3⟩ := k_readError (c := c) (ss := ss + n) hc hF hcO (hR1.2.1 _ (by omega)).2.1 hgq (by omega) (by omega) (G139 hS) hn o.2.2.2.1 o.2.2.2.2.1 (by omega) ((opn_ne (Or.inl (by omega))).trans cpd_7) (Nat.le_refl _) hss
    rw [hcb] at f2 f3
    have hM : fMem b n = some [(0, n, false)] := if_neg (by rw [har]; decide)
    have hE : eFil b n = eObj b n := by
      unfold eFil
      rw [hM]
      show eMem b [(0, n, false)] = _
      rw [eMem_s]
      have e0 : sub b (0, n, false).1 (0, n, false).2.1 = b := by
        rw [← ht.2.2.2]
        exact sub_0
      rw [e0]
      show (if false = false ∧ eObj b n ≠ 0 then eObj b n else 0) = _
      by_cases d : eObj b n = 0
      · rw [if_neg (fun q => q.2 d), d]
      · rw [if_pos ⟨rfl, d⟩]
    have f1' : frF fl (opn (cpd τ ss n) (10 + 2 * (8 * fl)) 1 ss n) τ1 := frO_F (k := 0) (by decide) f1
    refine ⟨τ1, ?_, frF_trans fro f1', ?_⟩
    · unfold f_H_readFile_64
      rw [C0r4 (G0 hS) (R0_4 hR0), bs, c_aN (G9 hS) (Or.inl rfl) (by decide) (by omega), bs, e9, C0r0 (G0 hS) (R0_0 hR0), bs, C10g1 (G1 hS), bs, ht0.1, bs, c_o hq, bs, k_open hq, xb_mk, C0r4 (G0 hS) (R0_4 hR1), bs, c_aN (G9 hS) (Or.inl rfl) (by decide) (by omega), bs, e9', C0r7 (G0 hS) (R0_7 hR1), bs, bs, c_o hq, bs, f2, xb_mk, hE]
    · intro h0
      rw [hE] at h0
      refine ⟨_, hM, ⟨⟨?_, ?_, ?_, fun _ => ?_⟩, ?_⟩⟩
      · rw [har]
        exact (f1.1 _ _ (by omega)).trans o.1
      · exact (f1.1 _ _ (by omega)).trans o.2.1
      · exact (f1.1 _ _ (by omega)).trans o.2.2.1
      · exact f3 h0
      · intro j hj hj8
        have hj1 : 1 ≤ j := hj
        rw [f1.1 _ _ (Or.inl (by omega)), opn_ne (Or.inl (by omega)), cpd_I (Or.inl (by omega))]
        exact hz j hj8
  by_cases c1 : n < 8
  · rw [if_pos (show nI n < nI [33, 60, 97, 114, 99, 104, 62, 10].length from nI_lt c1 (by decide))]
    exact obj (decide_eq_false (fun e => by have := e.1; omega))
  · have e8 := k_begins_2 (F := F) (c := c) hc hS hR0 ht0 8 0 F rfl (by omega)
    rw [if_neg (show ¬ nI n < nI [33, 60, 97, 114, 99, 104, 62, 10].length from nI_nlt (show 8 ≤ n by omega) (by omega)), f_Row_begins, e8, xb_mk]
    by_cases c2 : al (fun i => decide (b i = [33, 60, 97, 114, 99, 104, 62, 10].getD i 0)) 0 8 = true
    · have har : isAr b n = true := decide_eq_true ⟨by omega, (le_8 hb).mpr c2⟩
      have hM : fMem b n = ams b n 8 8 := if_pos har
      rw [c2, if_neg (show ¬ bI true = 0 by decide), c_o (G0 hS), bs]
      unfold f_H_readArchive
      rw [xkl_at hc.1.2 (by decide), bs]
      obtain ⟨τ1, h1, h2, h3⟩ := k_rA_8 (F := F) (c := c) (fl := fl) (base := ss) (b := b) hS (by omega) hfl hss 8 0 8 F (cpd τ ss n) hR0 ht0 rfl (by omega) (by omega)
      rw [show nI [33, 60, 97, 114, 99, 104, 62, 10].length = nI 8 from rfl, h2]
      unfold eFil
      rw [hM]
      cases hq : ams b n 8 8 with
      | none =>
        refine ⟨τ1, ?_, h1, fun e => absurd e (show ¬ (8 : Nat) = 0 by decide)⟩
        rw [show (none : Option (List (Nat × Nat × Bool))).isSome = false from rfl, if_neg (show ¬ false = true by decide), xb_mk]
      | some l =>
        obtain ⟨h4, h5⟩ := h3 l hq
        have h6 := ams_le hq
        obtain ⟨τ2, g1, g2, g3, g4⟩ := k_rA_122 (F := F) (c := c) (fl := fl) (base := ss) (n := n) (b := b) (S := put (eI τ 8) (eI τ 2) ss n) (ss := ss + n) hc hS hF hfl hn hS' hcb (Nat.le_refl _) hss l 0 F τ1 (GR_F hR0 h1) ((h1.2.2.2.2.1 8 (by omega) (by decide)).trans cpd_8) ((h1.1 7 1 (by omega)).trans cpd_7) (by omega) h4 (fun j hj hj8 => by rw [h5 j (Or.inr hj) hj8, cpd_I (Or.inl (by omega))]; exact hz j hj8) h6.2 (by omega)
        refine ⟨τ2, ?_, frF_trans h1 g1, fun e => ⟨l, rfl, by rw [har]; exact g4 e⟩⟩
        rw [show (some l).isSome = true from rfl, if_pos rfl, g2, xb_mk]
    · have c3 := Bool.eq_false_iff.mpr c2
      rw [c3, if_pos (show bI false = 0 from rfl)]
      exact obj (decide_eq_false (fun e => c2 ((le_8 hb).mp e.2)))
/-- a member that is closed -/
def clF (τ : px_TT) (a : Nat) : Prop := fI τ a 4 = nI 0 ∧ fI τ a 15 = nI 0 ∧ fI τ a 16 = nI 0
theorem k_clearFile_2 (hS : GS sk L) (hfl : fl < 8) : ∀ (d k f : Nat) (τ : px_TT), GR τ → k + d = 8 → d < f → (∀ j, j < k → clF τ (10 + 2 * (8 * fl + j))) → ∃ τ', frF fl τ τ' ∧ f_H_clearFile_2 F c f 0 (nI fl) (nI k) (cH sk L τ) = f_H_clearFile_31 F c 0 (nI fl) (cH sk L τ') ∧ (∀ j, j < 8 → clF τ' (10 + 2 * (8 * fl + j))) := by
  intro d
  induction d with
  | zero =>
    intro k f τ hR hk hf hz
    obtain ⟨f, rfl⟩ : ∃ g, f = g + 1 := ⟨f - 1, by omega⟩
    refine ⟨τ, frF_refl _ _, ?_, fun j hj => hz j (by omega)⟩
    unfold f_H_clearFile_2
    rw [if_pos (nI_le (by omega) (by omega))]
  | succ d ih =>
    intro k f τ hR hk hf hz
    obtain ⟨f, rfl⟩ : ∃ g, f = g + 1 := ⟨f - 1, by omega⟩
    have hq := G_of hS (show 8 * fl + k < 64 by omega)
    have e9 : eN τ 9 (8 * fl + k) = some (10 + 2 * (8 * fl + k)) := (hR.2.1 (8 * fl + k) (by omega)).2.2.1
    unfold f_H_clearFile_2
    rw [if_neg (nI_ge (by omega) (by omega)), C0r4 (G0 hS) (R0_4 hR), bs, pk_mul, nI_add, Nat.mul_comm fl 8, c_aN (G9 hS) (Or.inl rfl) (by decide) (by omega), bs, e9, bs, c_o hq, bs, k_open hq, xb_mk, nI_add]
    have fr : frF fl τ (opn τ (10 + 2 * (8 * fl + k)) 0 0 0) := opn_F (by omega)
    obtain ⟨τ', h1, h2, h3⟩ := ih (k + 1) f _ (GR_F hR fr) (by omega) (by omega) (by
      intro j hj
      by_cases e : j = k
      · rw [e]; exact ⟨opn_at.1, opn_at.2.2.2.2.2.1, opn_at.2.2.2.2.2.2⟩
      · unfold clF; rw [opn_ne (Or.inl (by omega)), opn_ne (Or.inl (by omega)), opn_ne (Or.inl (by omega))]; exact hz j (by omega))
    exact ⟨τ', frF_trans fr h1, h2, h3⟩
theorem k_clearFile {v : Int32} (hS : GS sk L) (hR : GR τ) (hF : 8 < F) (hfl : fl < 8) (he : eI τ 138 fl = v) : ∃ τ', f_H_clearFile F c 0 (nI fl) (cH sk L τ) = some ((), cH sk L (tI τ' 7 1 v)) ∧ frF fl τ τ' ∧ (∀ j, j < 8 → clF τ' (10 + 2 * (8 * fl + j))) := by
  obtain ⟨τ', h1, h2, h3⟩ := k_clearFile_2 (F := F) (c := c) hS hfl 8 0 F τ hR rfl (by omega) (fun j h => absurd h (Nat.not_lt_zero j))
  have hR' := GR_F hR h1
  have he' : eI τ' 138 fl = v := by rw [h1.2.2.2.2.1 138 (by omega) (by decide)]; exact he
  refine ⟨τ', ?_, h1, h3⟩
  unfold f_H_clearFile
  rw [h2]
  unfold f_H_clearFile_31
  rw [C0r3 (G0 hS) (R0_3 hR'), bs, C0r5 (G0 hS) (R0_5 hR'), bs, c_aI (G138 hS) (Or.inr (Or.inl rfl)) (by decide) (by omega), bs, he', C10p1 (G7 hS), bs]
/-- where file k begins in the store -/
def off (fs : List (Nat × (Nat → Nat))) (k : Nat) : Nat := ((fs.take k).map (fun x => x.1)).sum
/-- file f, as the class has it -/
def CF1 (sk : Nat → Nat × Nat × Nat) (L : Nat) (τ : px_TT) (f base n : Nat) (b : Nat → Nat) : Prop := n ≤ 8192 ∧ cb (eI τ 8) base n = b ∧ eFil b n = 0 ∧ ∃ l, fMem b n = some l ∧ mD sk L τ f base (isAr b n) (eI τ 8) 0 l
/-- the files, as the class has them -/
def CF (sk : Nat → Nat × Nat × Nat) (L : Nat) (τ : px_TT) (fs : List (Nat × (Nat → Nat))) : Prop := fI τ 0 6 = nI fs.length ∧ fs.length ≤ 8 ∧ (∀ k, isB (eI τ 8 k)) ∧ fI τ 7 1 = nI (off fs fs.length) ∧ (∀ k, k ≤ fs.length → eI τ 138 k = nI (off fs k)) ∧ (∀ f x, fs[f]? = some x → CF1 sk L τ f (off fs f) x.1 x.2) ∧ (∀ f j, fs.length ≤ f → f < 8 → j < 8 → fI τ (10 + 2 * (8 * f + j)) 4 = nI 0)
theorem off_le {fs : List (Nat × (Nat → Nat))} (h : ∀ (f : Nat) (x : Nat × (Nat → Nat)), fs[f]? = some x → x.1 ≤ 8192) : ∀ k, k ≤ fs.length → off fs k ≤ 8192 * k := by
  intro k
  induction k with
  | zero => intro _; unfold off; rw [List.take_zero]; exact Nat.le_refl _
  | succ k ih =>
    intro hk
    have h1 := ih (by omega)
    have h2 := h k fs[k] (List.getElem?_eq_getElem (by omega))
    unfold off at h1 ⊢
    rw [List.take_succ_eq_append_getElem (by omega), List.map_append, List.sum_append]
    show _ + (fs[k].1 + 0) ≤ _
    omega
theorem off_s {fs : List (Nat × (Nat → Nat))} {f : Nat} {x : Nat × (Nat → Nat)} (h : fs[f]? = some x) : off fs (f + 1) = off fs f + x.1 := by
  obtain ⟨hl, hx⟩ := List.getElem?_eq_some_iff.mp h
  unfold off
  rw [List.take_succ_eq_append_getElem hl, List.map_append, List.sum_append, hx]
  show _ + (x.1 + 0) = _
  rw [Nat.add_zero]
theorem off_mono {fs : List (Nat × (Nat → Nat))} : ∀ (d f : Nat), f + d ≤ fs.length → off fs f ≤ off fs (f + d)
  | 0, _, _ => Nat.le_refl _
  | d + 1, f, h => by
    have h1 := off_mono (fs := fs) d f (by omega)
    have h2 := off_s (fs := fs) (f := f + d) (x := fs[f + d]) (List.getElem?_eq_getElem (by omega))
    rw [show f + (d + 1) = f + d + 1 by omega, h2]
    omega
theorem off_app {fs : List (Nat × (Nat → Nat))} {x : Nat × (Nat → Nat)} {k : Nat} (hk : k ≤ fs.length) : off (fs ++ [x]) k = off fs k := by
  unfold off
  rw [List.take_append_of_le_length hk]
theorem off_top {fs : List (Nat × (Nat → Nat))} {x : Nat × (Nat → Nat)} : off (fs ++ [x]) (fs.length + 1) = off fs fs.length + x.1 := by
  have h : (fs ++ [x])[fs.length]? = some x := by rw [List.getElem?_append_right (Nat.le_refl _), Nat.sub_self]; rfl
  rw [off_s h, off_app (Nat.le_refl _)]
theorem mD_eq {τ τ' : px_TT} {f o : Nat} {ar : Bool} {S S' : Nat → Int32} (hN : ∀ a k, fN τ' a k = fN τ a k) (h8 : eI τ' 8 = S') (hB : ∀ k, isB (S' k)) : ∀ (l : List (Nat × Nat × Bool)) (k : Nat), (∀ j, k ≤ j → j < 8 → (∀ i, i ≠ 15 → i ≠ 16 → fI τ' (10 + 2 * (8 * f + j)) i = fI τ (10 + 2 * (8 * f + j)) i) ∧ eI τ' (11 + 2 * (8 * f + j)) = eI τ (11 + 2 * (8 * f + j))) → k + l.length ≤ 8 → (∀ x, x ∈ l → cb S' (o + x.1) x.2.1 = cb S (o + x.1) x.2.1) → mD sk L τ f o ar S k l → mD sk L τ' f o ar S' k l
  | [], k, hI, hk, hc, h => fun j h1 h2 => by rw [(hI j h1 h2).1 4 (by decide) (by decide)]; exact h j h1 h2
  | x :: l, k, hI, hk, hc, h => by
    rw [List.length_cons] at hk
    unfold mD at h ⊢
    have e := hI k (Nat.le_refl _) (by omega)
    refine ⟨⟨(e.1 4 (by decide) (by decide)).trans h.1.1, (e.1 5 (by decide) (by decide)).trans h.1.2.1, (e.1 6 (by decide) (by decide)).trans h.1.2.2.1, fun hx => ?_⟩, mD_eq hN h8 hB l (k + 1) (fun j h1 h2 => hI j (by omega) h2) (by omega) (fun y hy => hc y (List.mem_cons_of_mem _ hy)) h.2⟩
    exact cD_eq (h.1.2.2.2 hx) (fun i _ h15 h16 => e.1 i h15 h16) hN e.2 h8 (hc x (List.mem_cons_self ..)) hB
theorem CF1_eq {τ τ' : px_TT} {f o m : Nat} {b' : Nat → Nat} (h : CF1 sk L τ f o m b') (hN : ∀ a k, fN τ' a k = fN τ a k) (hB : ∀ k, isB (eI τ' 8 k)) (hI : ∀ j, j < 8 → (∀ i, i ≠ 15 → i ≠ 16 → fI τ' (10 + 2 * (8 * f + j)) i = fI τ (10 + 2 * (8 * f + j)) i) ∧ eI τ' (11 + 2 * (8 * f + j)) = eI τ (11 + 2 * (8 * f + j))) (hc : ∀ k, k < m → eI τ' 8 (o + k) = eI τ 8 (o + k)) : CF1 sk L τ' f o m b' := by
  obtain ⟨h1, h2, h3, l, h4, h5⟩ := h
  have hl := fMem_le h4
  have e : ∀ a s, a + s ≤ m → cb (eI τ' 8) (o + a) s = cb (eI τ 8) (o + a) s := by
    intro a s has
    funext k
    unfold cb
    by_cases d : k < s
    · rw [if_pos d, if_pos d, Nat.add_assoc, hc (a + k) (by omega)]
    · rw [if_neg d, if_neg d]
  refine ⟨h1, ?_, h3, l, h4, mD_eq hN rfl hB l 0 (fun j _ hj => hI j hj) (by omega) (fun x hx => e x.1 x.2.1 (hl.2 x hx)) h5⟩
  have := e 0 m (by omega)
  rw [Nat.add_zero] at this
  rw [this]; exact h2
end CAD
