/-! firstWanted of the class -/
def fwJ (g : Nat → Option Nat) : Nat → Nat → Nat
  | _, 0 => 0
  | k, c + 1 => if (g k).isSome = true then k else fwJ g (k + 1) c
theorem fwJ_s (g : Nat → Option Nat) (k c : Nat) : fwJ g k (c + 1) = if (g k).isSome = true then k else fwJ g (k + 1) c := rfl
theorem fwJ_pos (g : Nat → Option Nat) : ∀ (c k : Nat), 1 ≤ k → (0 < fwJ g k c ↔ (hpf g k c).isSome = true) := by
  intro c
  induction c with
  | zero => intro k _; unfold fwJ hpf; exact ⟨fun h => by omega, fun h => by cases h⟩
  | succ c ih =>
    intro k hk
    rw [fwJ_s]
    unfold hpf
    cases e : g k with
    | some i => rw [if_pos (show (some i).isSome = true from rfl)]; exact ⟨fun _ => rfl, fun _ => by omega⟩
    | none => rw [if_neg (by decide)]; exact ih (k + 1) (by omega)
section CFW
variable {F : Nat} {c : px_CT} {sk : Nat → Nat × Nat × Nat} {L : Nat} {τ τ' : px_TT} {tb : Nat → Nat → Nat} {q g base n ss : Nat} {S : Nat → Int32} {xs : px_NL} {od : List Nat} {sg : List (List Nat)} {own : Nat → Nat × Nat}
theorem cS_N (h : cS sk L τ q g base n S) (f : frN 1695 τ τ') (hq : q ≠ 1695) : cS sk L τ' q g base n S := by
  have hI : ∀ k, fI τ' q k = fI τ q k := fun k => f.1 q k (Or.inl hq)
  unfold cS cG cR cO cY at h ⊢
  rw [hI, hI, hI, hI, hI, hI, hI, hI, hI, f.2.2.1, f.2.2.1, f.2.2.1, f.2.2.2.1, f.2.2.2.1]
  exact h
theorem CLn_N (h : CLn sk L τ tb xs od sg) (hn : NP sk L τ own) (f : frN 1695 τ τ') : CLn sk L τ' tb xs od sg := by
  obtain ⟨s1, s2, s3, s4, s5, s6, s7⟩ := id h.1
  have eP : ∀ j, pN τ' 149 j = pN τ 149 j := fun j => by unfold pN; rw [f.2.2.2.2.2]
  refine ⟨⟨s1, (f.2.2.1 148 0).trans s2, s3, s4, s5, (f.1 148 2 (Or.inl (by decide))).trans s6, fun j v hv => ?_⟩, fun i x hx => ?_, ⟨(f.1 147 15 (Or.inl (by decide))).trans h.2.2.1.1, fun i d hd => ?_⟩, h.2.2.2⟩
  · obtain ⟨y1, y2, y3, y4⟩ := s7 j v hv
    have := (hn 149 j _ (Or.inr (Or.inr rfl)) y2).1
    rw [eP, f.2.2.2.2.2]
    exact ⟨y1, y2, y3, (f.2.1 _ 0 (Or.inl (by omega))).trans y4.1, (f.2.1 _ 1 (Or.inl (by omega))).trans y4.2.1, (f.2.1 _ 2 (Or.inl (by omega))).trans y4.2.2.1, (f.1 _ 3 (Or.inl (by omega))).trans y4.2.2.2⟩
  · obtain ⟨y1, y2, y3, y4⟩ := CLn_at h hx
    have := (hn 149 i _ (Or.inr (Or.inr rfl)) y2).1
    obtain ⟨r1, r2⟩ := h.2.1 i x hx
    rw [eP]
    exact ⟨crec_fr r1 (fun k => f.1 _ k (Or.inl (by omega))) (fun k => f.2.1 _ k (Or.inl (by omega))) (fun k => f.2.2.1 _ k), (f.1 _ 12 (Or.inl (by omega))).trans r2⟩
  · rw [eP, f.2.2.2.2.2]; exact h.2.2.1.2 i d hd
theorem NP_N (hn : NP sk L τ own) (f : frN 1695 τ τ') : NP sk L τ' own := fun A i p hA hp => hn A i p hA (by rw [f.2.2.2.2.2] at hp; exact hp)
theorem GR_N (hR : GR τ) (f : frN 1695 τ τ') : GR τ' := GR_mv hR (fun a k _ => f.2.2.1 a k) (fun a k ha _ => f.1 a k (Or.inl (by omega))) (f.2.2.2.2.2 9) (f.2.2.2.2.2 151)
/-- the class reads the name of symbol j into its probe -/
theorem k_probe {j : Nat} (hS : GS sk L) (hs : cS sk L τ q g base n S) (hF : 20 < F) (h71 : fI τ 7 1 = nI ss) (hss : base + n ≤ ss) (hs2 : ss ≤ 65536) (hj : j < oM (cb S base n)) (hg : yG (cb S base n) j = true) : ∃ τ', f_Name_read F c 1695 7 (nI (base + oP (cb S base n) (oX (cb S base n)) + yN (cb S base n) j)) (cH sk L τ) = some ((), cH sk L τ') ∧ frN 1695 τ τ' ∧ isNm τ' 1695 (yT (cb S base n) j) := by
  obtain ⟨o1, o2, o3, o4, o5, o6, o7, o8, o9, o10⟩ := hs.1.1.1
  obtain ⟨x1, x2, x3, x4⟩ := hs.2.2.2 (w2_M0 hj)
  have hP := hs.2.2.1.2.2.2.1 _ x3 (by rw [x4]; decide) (by rw [x4]; decide)
  obtain ⟨g1, g2, g3⟩ := yG_n hg
  obtain ⟨τ', a1, a2, a3⟩ := k_nread (F := F) (c := c) (p := base + oP (cb S base n) (oX (cb S base n)) + yN (cb S base n) j) (τ := τ) (G1695 hS) o3 o5 hs2 (by decide) (by omega) (by decide) hF o4 o6 h71
  rw [sym_T hs.2.2 hj hg hss] at a3
  exact ⟨τ', a1, a2, a3⟩
theorem k_fw_2 (hS : GS sk L) (hF : 4128 < F) (hq : q ≠ 1695) (hss : base + n ≤ ss) (hs2 : ss ≤ 65536) (hok : okL xs) (hy : ∀ k, 1 ≤ k → k < oM (cb S base n) → yOK (cb S base n) k = true) (hB : ∀ k, yB (cb S base n) k < 16 ∧ yW (cb S base n) k < 65536) : ∀ (d j f : Nat) (τ : px_TT), j + d = oM (cb S base n) → 1 ≤ j → d < f → GR τ → NP sk L τ own → CLn sk L τ tb xs od sg → cS sk L τ q g base n S → fI τ 7 1 = nI ss → ∃ τ', f_Link_firstWanted_2 F c f 147 (some q) (nI j) (cH sk L τ) = some (nI (fwJ (hp1 (cb S base n) xs) j d), cH sk L τ') ∧ frN 1695 τ τ' := by
  intro d
  induction d with
  | zero =>
    intro j f τ hj h1 hf hR hn hC hs h71
    obtain ⟨f, rfl⟩ : ∃ x, f = x + 1 := ⟨f - 1, by omega⟩
    have hM := w2_M hs.2.2
    refine ⟨τ, ?_, frN_refl _ _⟩
    unfold f_Link_firstWanted_2 f_Link_firstWanted_65
    rw [bs, C7g11 hs.1.1.1.1, bs, hs.2.1.2.1, if_pos (nI_le (by omega) (by omega))]
    rfl
  | succ d ih =>
    intro j f τ hj h1 hf hR hn hC hs h71
    obtain ⟨f, rfl⟩ : ∃ x, f = x + 1 := ⟨f - 1, by omega⟩
    have hM := w2_M hs.2.2
    have hjM : j < oM (cb S base n) := by omega
    have o := hs.1.1.1.1
    have hyk := hy j h1 hjM
    unfold f_Link_firstWanted_2 f_Link_firstWanted_59 f_Link_firstWanted_57
    rw [bs, C7g11 o, bs, hs.2.1.2.1, if_neg (nI_ge hjM (by omega)), c_o o, bs, k_isDefining hs (by omega) h1 hjM (hB j).1 (hB j).2, xb_mk, fwJ_s]
    by_cases cd : yB (cb S base n) j = 0 ∨ yW (cb S base n) j = 0
    · have eh : hp1 (cb S base n) xs j = none := by unfold hp1; rw [if_pos cd]
      rw [decide_eq_false (fun e => e cd), if_pos (show bI false = 0 from rfl), nI_add, eh, if_neg (by decide)]
      exact ih (j + 1) f τ (by omega) (by omega) (by omega) hR hn hC hs h71
    · rw [decide_eq_true (show ¬ (yB (cb S base n) j = 0 ∨ yW (cb S base n) j = 0) from cd), if_neg (show ¬ bI true = 0 by decide)]
      have hg := (yOK_n hyk (fun e => cd (Or.inl e))).2.1
      obtain ⟨τ1, a1, a2, a3⟩ := k_probe (F := F) (c := c) hS hs (by omega) h71 hss hs2 hjM hg
      have hR1 := GR_N hR a2
      have hn1 := NP_N hn a2
      have hC1 := CLn_N hC hn a2
      have hs1 := cS_N hs a2 hq
      have h711 : fI τ1 7 1 = nI ss := (a2.1 7 1 (Or.inl (by decide))).trans h71
      have hokT : okN (yT (cb S base n) j) := okN_tk (cb_lt S base n) _ (yG_n hg).2.1
      have hxl := hC1.1.2.2.2.1
      rw [C3r11 (G147 hS) (GR_r (v := 1695) hR (by decide)), bs, C7r0 o hs.1.1.1.2.1, bs, c_o o, bs, k_nameStart hs (by omega) hjM, xb_mk, c_o (G1695 hS), bs, a1, xb_mk, C3r3 (G147 hS) (GR_r (v := 148) hR1 (by decide)), bs, C3r11 (G147 hS) (GR_r (v := 1695) hR1 (by decide)), bs, c_o hC1.1.1, bs, k_find hC1.1 (G1695 hS) a3 hokT (by omega), xb_mk]
      have next : hp1 (cb S base n) xs j = none → ∃ τ', f_Link_firstWanted_2 F c f 147 (some q) (nI j + nI 1) (cH sk L τ1) = some (nI (if (hp1 (cb S base n) xs j).isSome = true then j else fwJ (hp1 (cb S base n) xs) (j + 1) d), cH sk L τ') ∧ frN 1695 τ τ' := fun eh => by
        obtain ⟨τ', j1, j2⟩ := ih (j + 1) f τ1 (by omega) (by omega) (by omega) hR1 hn1 hC1 hs1 h711
        rw [eh, if_neg (by decide), nI_add]
        exact ⟨τ', j1, frN_trans a2 j2⟩
      cases ei : idx (yT (cb S base n) j) 0 (xs.map Prod.fst) with
      | none =>
        have eh : hp1 (cb S base n) xs j = none := by unfold hp1; rw [if_neg cd, ei]
        exact next eh
      | some i =>
        have hi := idx_lt ei
        rw [List.length_map] at hi
        have hi : i < xs.length := by omega
        have hx := List.getElem?_eq_getElem hi
        obtain ⟨z1, z2, z3, z4⟩ := CLn_at hC1 hx
        have hr := (hC1.2.1 i _ hx).1
        show ∃ τ', xb (f_Link_isWanted F c (some (pN τ1 149 i)) (cH sk L τ1)) _ = _ ∧ _
        rw [k_isWanted z3 hr (hok i _ hx).1, xb_mk]
        by_cases cw : xs[i].2.2.1 = true ∧ xs[i].2.1 = 0
        · have eh : hp1 (cb S base n) xs j = some i := by
            unfold hp1
            rw [if_neg cd, ei]
            show (match xs[i]? with
              | none => none
              | some x => if x.2.2.1 = true ∧ x.2.1 = 0 then some i else none) = _
            rw [hx]
            exact if_pos cw
          rw [cw.1, decide_eq_true cw.2, if_neg (show ¬ bI (true && true) = 0 by decide), eh, if_pos (show (some i).isSome = true from rfl)]
          exact ⟨τ1, rfl, a2⟩
        · have eh : hp1 (cb S base n) xs j = none := by
            unfold hp1
            rw [if_neg cd, ei]
            show (match xs[i]? with
              | none => none
              | some x => if x.2.2.1 = true ∧ x.2.1 = 0 then some i else none) = _
            rw [hx]
            exact if_neg cw
          have eb : (decide (xs[i].2.1 = 0) && xs[i].2.2.1) = false := by
            rw [Bool.and_eq_false_iff]
            by_cases e : xs[i].2.1 = 0
            · exact Or.inr (Bool.eq_false_iff.mpr (fun e2 => cw ⟨e2, e⟩))
            · exact Or.inl (decide_eq_false e)
          rw [eb, if_pos (show bI false = 0 from rfl)]
          exact next eh
end CFW
