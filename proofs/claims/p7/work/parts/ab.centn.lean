/-! enterNames of the class, whole -/
theorem idx_last {w : List Nat} : ∀ {l : List (List Nat)} {k : Nat}, idx w k l = none → idx w k (l ++ [w]) = some (k + l.length)
  | [], k, _ => by
    show (if w = w then some k else _) = some (k + 0)
    rw [if_pos rfl]; rfl
  | v :: l, k, h => by
    have h : (if v = w then some k else idx w (k + 1) l) = none := h
    show (if v = w then some k else idx w (k + 1) (l ++ [w])) = some (k + (l.length + 1))
    by_cases c : v = w
    · rw [if_pos c] at h; cases h
    · rw [if_neg c] at h ⊢
      rw [idx_last h]
      congr 1
      omega
section CEO
variable {F : Nat} {c : px_CT} {tb : Nat → Nat → Nat} {q g base n ss t : Nat} {S : Nat → Int32} {od : List Nat} {sg : List (List Nat)} {b : Nat → Nat}
theorem ec1_len {xs : px_NL} {k : Nat} : xs.length ≤ (ec1 b k xs).length ∧ (ec1 b k xs).length ≤ xs.length + 1 := by
  unfold ec1
  split
  · refine ⟨?_, entL_len⟩
    unfold entL
    split
    · exact Nat.le_refl _
    · rw [List.length_append]; omega
  · exact ⟨Nat.le_refl _, Nat.le_succ _⟩
theorem k_en_2 (hF : 4128 < F) (hq : q < 138) (ht : t < 64) (hb : b = cb S base n) (hss : base + n ≤ ss) (hs2 : ss ≤ 65536) (hy : ∀ k, 1 ≤ k → k < oM b → yOK b k = true) (hB : ∀ k, yB b k < 16) : ∀ (d j f k : Nat) (sk : Nat → Nat × Nat × Nat) (L : Nat) (τ : px_TT) (own : Nat → Nat × Nat) (xs : px_NL), j + d = 64 → d < f → GS sk L → GR τ → NP sk L τ own → CLn sk L τ tb xs od sg → cS sk L τ q g base n S → fI τ 7 1 = nI ss → RSy τ t b xs j → xs.length + d ≤ 4128 → RMk sk L (k + (oM b - j)) → ∃ sk' L' τ' own', f_Link_enterNames_2 F c f 147 (nI t) (some q) (nI j) (cH sk L τ) = some ((), cH sk' L' τ') ∧ EX sk L sk' L' ∧ RMk sk' L' k ∧ NP sk' L' τ' own' ∧ CLn sk' L' τ' tb (itr (ec1 b) j d xs) od sg ∧ RSy τ' t b (itr (ec1 b) j d xs) 64 ∧ frSy t xs.length τ τ' := by
  intro d
  induction d with
  | zero =>
    intro j f k sk L τ own xs hj hf hS hR hn hC hs h71 hr hx hm
    obtain ⟨f, rfl⟩ : ∃ x, f = x + 1 := ⟨f - 1, by omega⟩
    have ej : j = 64 := by omega
    refine ⟨sk, L, τ, own, ?_, EX_refl, ⟨by have := hm.1; omega, by have := hm.2; omega⟩, hn, hC, by rw [ej] at hr; exact hr, frSy_refl⟩
    unfold f_Link_enterNames_2 f_Link_enterNames_67
    rw [if_pos (nI_le (by omega) (by omega))]
  | succ d ih =>
    intro j f k sk L τ own xs hj hf hS hR hn hC hs h71 hr hx hm
    obtain ⟨f, rfl⟩ : ∃ x, f = x + 1 := ⟨f - 1, by omega⟩
    have o := hs.1.1.1.1
    have hj64 : j < 64 := by omega
    rw [itr_s]
    unfold f_Link_enterNames_2
    rw [if_neg (nI_ge hj64 (by omega)), bs, c_o o, bs]
    by_cases ch : hsN b j = true
    · obtain ⟨h1, hjM, hyB⟩ := of_decide_eq_true ch
      have ex : ec1 b j xs = entL (yT b j) xs := by unfold ec1; rw [if_pos ch]
      have hyk := hy j h1 hjM
      have hg := (yOK_n hyk hyB).2.1
      have hBj := hB j
      have hokT : okN (yT b j) := by rw [hb]; rw [hb] at hg; exact okN_tk (cb_lt S base n) _ (yG_n hg).2.1
      have hm2 : RMk sk L (k + (oM b - (j + 1)) + 1) := ⟨by have := hm.1; omega, by have := hm.2; omega⟩
      rw [hb] at hjM hyB hBj hg
      obtain ⟨τ1, a1, a2, a3⟩ := k_probe (F := F) (c := c) hS hs (by omega) h71 hss hs2 hjM hg
      rw [← hb] at a3
      have hR1 := GR_N hR a2
      have hn1 := NP_N hn a2
      have hC1 := CLn_N hC hn a2
      have f1 : frSy t xs.length τ τ1 := frSy_N hn a2
      have hxl : (xs.map Prod.fst).length = xs.length := List.length_map ..
      obtain ⟨sk2, L2, τ2, own2, e1, e2, e3, e4, e5, e6, e7, e8⟩ := k_enterG (F := F) (c := c) (k := k + (oM b - (j + 1))) hS hC1.1 hn1 (Or.inr (Or.inr rfl)) (by decide) (G1695 hS) (Or.inl (by decide)) a3 hokT (by rw [hxl]; omega) (by rw [hxl]; omega) hm2
      rw [hxl] at e6 e8
      have hC2 := CLn_ent hC1 e5 e6 e7 e8
      have f2 : frSy t xs.length τ1 τ2 := frSy_En hn1 e8
      have f12 := frSy_trans f1 f2 (Nat.le_refl _)
      have hS2 := GS_ex hS e2
      have hR2 := GR_S hR1 f2
      have hs3 := cS_S hs e2 f12 hq
      have h1692 : eN τ2 1692 = eN τ 1692 := by rw [e8.2.2.2.2.2.1 1692 (by decide), a2.2.2.2.2.2]
      have hmem : yT b j ∈ (entL (yT b j) xs).map Prod.fst := by rw [entL_fst]; exact ent_mem.mpr (Or.inl rfl)
      have hr2 : RSy τ2 t b (entL (yT b j) xs) j := RSy_1 hr hC f12 h1692 (fun v hv => by rw [entL_fst]; exact ⟨ent_mem.mpr (Or.inr hv), plc_ent hv⟩)
      have hplc : plc (yT b j) ((entL (yT b j) xs).map Prod.fst) = plc (yT b j) (xs.map Prod.fst) := by
        rw [entL_fst]
        by_cases cm : yT b j ∈ xs.map Prod.fst
        · exact plc_ent cm
        · have hi : idx (yT b j) 0 (xs.map Prod.fst) = none := by
            cases e : idx (yT b j) 0 (xs.map Prod.fst) with
            | none => rfl
            | some i => exact absurd (idx_iff.mp (by rw [e]; rfl)) cm
          unfold ent plc
          rw [if_neg (by rw [hi]; decide), hi, idx_last hi, Nat.zero_add]
          rfl
      have hv : some (pN τ2 149 (plc (yT b j) (xs.map Prod.fst))) = syN τ2 b (entL (yT b j) xs) j := by unfold syN; rw [if_pos ch, hplc]
      obtain ⟨r, p1, p2⟩ := plc_at (w := yT b j) (xs := xs)
      obtain ⟨z1, z2, z3, z4⟩ := CLn_at hC2 p1
      obtain ⟨v1, v2, v3, v4, v5, v6⟩ := k_en_v (N := xs.length) (t := t) (b := b) hR2 e4 hC2 hs3 hj64 hr2 hv (fun _ => hmem) _ rfl
      have hl := ec1_len (b := b) (xs := xs) (k := j)
      rw [ex] at hl
      obtain ⟨sk4, L4, τ4, own4, j1, j2, j3, j4, j5, j6, j7⟩ := ih (j + 1) f k sk2 L2 _ own2 (entL (yT b j) xs) (by omega) (by omega) hS2 v1 v2 v3 v4 (by rw [v6.1 7 1 (by decide) (by decide) (Or.inl (by decide)), f12.1 7 1 (by decide) (by decide) (Or.inl (by decide))]; exact h71) v5 (by omega) e3
      rw [ex]
      refine ⟨sk4, L4, τ4, own4, ?_, EX_trans e2 j2, j3, j4, j5, j6, frSy_trans (frSy_trans f12 v6 (Nat.le_refl _)) j7 hl.1⟩
      rw [k_bindOf hs (by omega) h1 hjM, xb_mk, if_neg (show ¬ nI (yB (cb S base n) j) = 0 from fun e => hyB ((nI_eq (b := 0) (by omega) (by decide)).mp e)), C3r11 (G147 hS) (GR_r (v := 1695) hR (by decide)), bs, C7r0 o hs.1.1.1.2.1, bs, c_o o, bs, k_nameStart hs (by omega) hjM, xb_mk, c_o (G1695 hS), bs, a1, xb_mk, C3r3 (G147 hS) (GR_r (v := 148) hR1 (by decide)), bs, C3r11 (G147 hS) (GR_r (v := 1695) hR1 (by decide)), bs, c_o hC1.1.1, bs, e1, xb_mk, k_en_48 hS2 hR2 ht hj64 (fun p hp => by rw [← Option.some.inj hp]; exact z3)]
      exact j1
    · have ex : ec1 b j xs = xs := by unfold ec1; rw [if_neg ch]
      have eB : f_ObjectFile_bindOf F c q (nI j) (cH sk L τ) = some (nI 0, cH sk L τ) := by
        by_cases c0 : j = 0 ∨ oM (cb S base n) ≤ j
        · exact k_bindOf0 hs c0 (by omega)
        · have c1 : 1 ≤ j := by omega
          have c2 : j < oM (cb S base n) := by omega
          rw [k_bindOf hs (by omega) c1 c2]
          have : yB (cb S base n) j = 0 := by
            by_cases e : yB (cb S base n) j = 0
            · exact e
            · exact absurd (show hsN b j = true by rw [hb]; exact decide_eq_true ⟨c1, c2, e⟩) ch
          rw [this]
      have hv : none = syN τ b xs j := by unfold syN; rw [if_neg ch]
      obtain ⟨v1, v2, v3, v4, v5, v6⟩ := k_en_v (N := xs.length) (t := t) (b := b) hR hn hC hs hj64 hr hv (fun q => absurd q ch) _ rfl
      obtain ⟨sk4, L4, τ4, own4, j1, j2, j3, j4, j5, j6, j7⟩ := ih (j + 1) f k sk L _ own xs (by omega) (by omega) hS v1 v2 v3 v4 (by rw [v6.1 7 1 (by decide) (by decide) (Or.inl (by decide))]; exact h71) v5 (by omega) ⟨by have := hm.1; omega, by have := hm.2; omega⟩
      rw [ex]
      refine ⟨sk4, L4, τ4, own4, ?_, j2, j3, j4, j5, j6, frSy_trans v6 j7 (Nat.le_refl _)⟩
      rw [eB, xb_mk, if_pos (show nI 0 = 0 from rfl), k_en_48 hS hR ht hj64 (fun p hp => by cases hp)]
      exact j1
end CEO
