/-! settle of the class -/
theorem lt31 {a b : Nat} (ha : a < 2 ^ 31) (hb : b < 2 ^ 31) : (lN a < lN b) ↔ a < b := by
  rw [Int64.lt_iff_toInt_lt, lN_ti (by omega), lN_ti (by omega), if_pos (by omega), if_pos (by omega)]
  omega
theorem frX_refl {p : Nat} {τ : px_TT} : frX p τ τ := ⟨fun _ _ _ _ => rfl, fun _ _ _ => rfl, fun _ _ _ => rfl, ⟨fun _ _ => rfl, rfl, rfl⟩, fun _ => rfl, fun _ => rfl, fun _ _ => rfl⟩
section CST
variable {F : Nat} {c : px_CT} {sk : Nat → Nat × Nat × Nat} {L : Nat} {τ : px_TT} {tb : Nat → Nat → Nat} {q g base n k t p no : Nat} {S : Nat → Int32} {r : px_NR} {W V Z : Nat} {b : Nat → Nat} {dr : Nat → Bool}
/-- what settle leaves -/
def SOr (τ τ' : px_TT) (p no : Nat) (r : px_NR) : Prop := (r.1 = 0 → fI τ' 147 15 = nI (no + 1) ∧ eN τ' 1693 = va_up (eN τ 1693) no (some p)) ∧ (r.1 ≠ 0 → fI τ' 147 15 = nI no ∧ eN τ' 1693 = eN τ 1693)
theorem k_st_76 {s : Nat} {inf : Int32} (hS : GS sk L) (hR : GR τ) (hp : ob sk L 5 p) (hpl : 1815 ≤ p) (ht : t < 64) (hno : no < 4128) (h15 : fI τ 147 15 = nI no) (hc : crec tb τ p r) (hr3 : r.1 ≤ 3) (hok : okR r) (eW : yW (tb t) k = W) (eV : yV (tb t) k = V) (hs : s = 1 ∨ s = 2 ∨ s = 3) (hW : W < 65536) (h2 : s = 2 ↔ W = 65522) (hW2 : W = 65521 ∨ W = 65522 ∨ W < 24) (hz : s = 2 → V < 2 ^ 31 ∧ Z < 2 ^ 31) : ∃ τ', f_Link_settle_76 F c 147 (some p) (nI t) inf (nI (W)) (lN (V)) (lN (Z)) (nI s) (cH sk L τ) = some (bI (decide (¬ (s = 3 ∧ r.1 = 3))), cH sk L τ') ∧ crec tb τ' p (cmS s t k (Z) (V) r) ∧ frX p τ τ' ∧ SOr τ τ' p no r := by
  have h4 : fI τ p 4 = nI r.1 := by rw [hc.1, if_neg (by omega)]
  have hS3 : s ≤ 3 := by omega
  have q147 : p ≠ 147 := by omega
  by_cases c1 : r.1 < s
  · have e3 : decide (¬ (s = 3 ∧ r.1 = 3)) = true := decide_eq_true (fun q => by omega)
    have dfn : ∀ (hm inf : Int32) (pt : Option Nat), ((s = 2 → hm = nI 3) ∧ (s ≠ 2 → W = 65521 → hm = nI 2) ∧ (s ≠ 2 → W ≠ 65521 → hm = nI 1 ∧ pt = some (152 + (24 * t + W)))) → ∃ τ', f_Link_define F c 147 (some p) (nI s) hm pt (lN (V)) (lN (Z)) inf (cH sk L τ) = some ((), cH sk L τ') ∧ crec tb τ' p (cmS s t k (Z) (V) r) ∧ frX p τ τ' ∧ SOr τ τ' p no r := fun hm inf pt hh => by
      obtain ⟨τ2, d1, d2, d3, d4, d5⟩ := k_define (F := F) (c := c) (τ := τ) (s := nI s) (hm := hm) (inf := inf) (pt := pt) (v := lN (V)) (z := lN (Z)) hS (GR_r hR (by decide)) hp hpl hno h15
      refine ⟨τ2, d1, ?_, frX_df d3 q147, fun h0 => d4 (by rw [h4, h0]), fun h0 => d5 (by rw [h4]; exact fun q => h0 ((nI_eq (b := 0) (by omega) (by decide)).mp q))⟩
      have ec : cmS s t k (Z) (V) r = dfR s t k (Z) (V) r := by unfold cmS; rw [if_pos c1]
      rw [ec]
      obtain ⟨_, ⟨a, b', g1, g2, g3⟩, _, _, g15, g16⟩ := hc
      refine ⟨?_, ⟨a, b', (d3.1 _ 10 (Or.inr (by decide)) (Or.inl q147)).trans g1, (d3.1 _ 11 (Or.inr (by decide)) (Or.inl q147)).trans g2, g3⟩, ⟨fun q => ?_, fun q => ?_, fun q => ?_, fun _ q => (nomatch q), fun q t' k' e => ?_⟩, (fun _ => d2.2.2.2.2.2), (d3.1 _ 15 (Or.inr (by decide)) (Or.inl q147)).trans g15, (d3.1 _ 16 (Or.inr (by decide)) (Or.inl q147)).trans g16⟩
      · show fI τ2 p 4 = nI (if s = 4 then 3 else s)
        rw [if_neg (by omega)]; exact d2.1
      · have q : s = 0 := q
        omega
      · have q : s = 4 := q
        omega
      · have q : s = 2 := q
        refine ⟨d2.2.1.trans (hh.1 q), ?_, ?_⟩
        · rw [d2.2.2.2.1]; show _ = lN (if s = 2 then V else 0); rw [if_pos q]
        · rw [d2.2.2.2.2.1]; show _ = lN (if s = 2 then Z else 0); rw [if_pos q]
      · have q : s = 1 ∨ s = 3 := q
        have e : some (t, k) = some (t', k') := e
        cases e
        rw [eV, eW]
        refine ⟨d2.2.2.2.1, fun w => d2.2.1.trans (hh.2.1 (by omega) w), fun w => ?_⟩
        obtain ⟨x1, x2⟩ := hh.2.2 (by omega) w
        exact ⟨d2.2.1.trans x1, d2.2.2.1.trans x2⟩
    unfold f_Link_settle_76
    rw [bs, C5g4 hp, bs, h4, if_pos (nI_lt c1 (by omega)), e3]
    by_cases c2 : s = 2
    · obtain ⟨τ2, d1, d2⟩ := dfn (nI 3) (nI 16) none ⟨fun _ => rfl, fun q => absurd c2 q, fun q => absurd c2 q⟩
      refine ⟨τ2, ?_, d2⟩
      rw [h2.mp c2, if_pos (show nI 65522 = 65522 from rfl), c_o (G147 hS), bs, d1, xb_mk]
      rfl
    · have hne : ¬ nI (W) = (65522 : Int32) := fun q => c2 (h2.mpr ((nI_eq (b := 65522) (by omega) (by decide)).mp q))
      rw [if_neg hne]
      by_cases c3 : W = 65521
      · obtain ⟨τ2, d1, d2⟩ := dfn (nI 2) inf none ⟨fun q => absurd q c2, fun _ _ => rfl, fun _ q => absurd c3 q⟩
        refine ⟨τ2, ?_, d2⟩
        rw [if_pos (show nI (W) = 65521 by rw [c3]; rfl), c_o (G147 hS), bs, d1, xb_mk]
        rfl
      · have hne2 : ¬ nI (W) = (65521 : Int32) := fun q => c3 ((nI_eq (b := 65521) (by omega) (by decide)).mp q)
        have hw24 : W < 24 := by
          rcases hW2 with e | e | e
          · exact absurd e c3
          · exact absurd (h2.mpr e) c2
          · exact e
        obtain ⟨τ2, d1, d2⟩ := dfn (nI 1) inf (some (152 + (24 * t + W))) ⟨fun q => absurd q c2, fun _ q => absurd q c3, fun _ _ => ⟨rfl, rfl⟩⟩
        refine ⟨τ2, ?_, d2⟩
        rw [if_neg hne2, c_o (G147 hS), bs, k_part hS hR ht hw24, xb_mk, c_o (G147 hS), bs, d1, xb_mk]
        rfl
  · unfold f_Link_settle_76 f_Link_settle_127 f_Link_settle_138
    rw [bs, C5g4 hp, bs, h4, if_neg (nI_nlt (by omega) (by omega))]
    have hr0 : r.1 ≠ 0 := by omega
    have sto : ∀ τ', fI τ' 147 15 = fI τ 147 15 → eN τ' 1693 = eN τ 1693 → SOr τ τ' p no r := fun τ' x1 x2 => ⟨fun q => absurd q hr0, fun _ => ⟨x1.trans h15, x2⟩⟩
    by_cases c2 : s = 2
    · rw [c2, if_pos rfl, bs]
      have e3 : decide (¬ (2 = 3 ∧ r.1 = 3)) = true := decide_eq_true (fun q => by omega)
      by_cases c3 : r.1 = 2
      · have e8 := (hc.2.2.1.2.2.1 c3).2.2
        have e7 := (hc.2.2.1.2.2.1 c3).2.1
        obtain ⟨hv, hz⟩ := hz c2
        rw [if_pos (show nI r.1 = nI 2 by rw [c3]), C5g8 hp, bs, e8, C5p8 hp, bs]
        obtain ⟨z9, hZ⟩ : ∃ z9, z9 = (if lN (Z) < lN r.2.2.2.2.2.1 then lN r.2.2.2.2.2.1 else lN (Z)) := ⟨_, rfl⟩
        rw [← hZ]
        have e72 : fJ (tJ τ p 8 z9) p 7 = lN r.2.2.2.2.2.2 := (tJ_ne (Or.inr (by decide))).trans e7
        rw [C5g7 hp, bs, e72, C5p7 hp, bs]
        obtain ⟨v9, hV⟩ : ∃ v9, v9 = (if lN (V) < lN r.2.2.2.2.2.2 then lN r.2.2.2.2.2.2 else lN (V)) := ⟨_, rfl⟩
        rw [← hV, if_neg (show ¬ nI 3 ≤ nI 2 by decide), xz_1, e3]
        have ec : cmS 2 t k (Z) (V) r = cmR (Z) (V) r := by unfold cmS; rw [if_neg (by omega), if_pos ⟨rfl, c3⟩]
        have eZ : z9 = lN (if Z ≤ r.2.2.2.2.2.1 then r.2.2.2.2.2.1 else Z) := by
          rw [hZ]
          have h1 := hok.2.1
          generalize Z = z at *
          generalize r.2.2.2.2.2.1 = z' at *
          by_cases x : z < z'
          · rw [if_pos ((lt31 (by omega) (by omega)).mpr x), if_pos (by omega)]
          · rw [if_neg (fun w => x ((lt31 (by omega) (by omega)).mp w))]
            by_cases y : z ≤ z'
            · rw [if_pos y, show z = z' by omega]
            · rw [if_neg y]
        have eV9 : v9 = lN (if V ≤ r.2.2.2.2.2.2 then r.2.2.2.2.2.2 else V) := by
          rw [hV]
          have h1 := hok.2.2
          generalize V = z at *
          generalize r.2.2.2.2.2.2 = z' at *
          by_cases x : z < z'
          · rw [if_pos ((lt31 (by omega) (by omega)).mpr x), if_pos (by omega)]
          · rw [if_neg (fun w => x ((lt31 (by omega) (by omega)).mp w))]
            by_cases y : z ≤ z'
            · rw [if_pos y, show z = z' by omega]
            · rw [if_neg y]
        refine ⟨tJ (tJ τ p 8 z9) p 7 v9, rfl, ?_, ⟨fun _ _ _ _ => rfl, fun a j ha => (tJ_ne (Or.inl ha)).trans (tJ_ne (Or.inl ha)), fun _ _ _ => rfl, ⟨fun j hj => (tJ_ne (Or.inr (by omega))).trans (tJ_ne (Or.inr (by omega))), rfl, rfl⟩, fun _ => rfl, fun _ => rfl, fun _ _ => rfl⟩, sto _ rfl rfl⟩
        rw [ec]
        refine ⟨?_, hc.2.1, ⟨fun q => ?_, fun q => ?_, fun q => ⟨(hc.2.2.1.2.2.1 c3).1, ?_, ?_⟩, fun q => ?_, fun q => ?_⟩, (fun _ => hc.2.2.2.1 (by omega)), hc.2.2.2.2⟩
        · exact hc.1
        · have q : r.1 = 0 := q
          omega
        · have q : r.1 = 4 := q
          omega
        · rw [tJ_at, eV9]; rfl
        · rw [tJ_ne (Or.inr (by decide)), tJ_at, eZ]; rfl
        · have q : r.1 = 1 ∨ r.1 = 3 := q
          omega
        · have q : r.1 = 1 ∨ r.1 = 3 := q
          omega
      · rw [if_neg (show ¬ nI r.1 = nI 2 from fun q => c3 ((nI_eq (by omega) (by decide)).mp q)), if_neg (show ¬ nI 3 ≤ nI 2 by decide), xz_1, e3]
        have ec : cmS 2 t k (Z) (V) r = r := by unfold cmS; rw [if_neg (by omega), if_neg (fun q => c3 q.2)]
        rw [ec]
        exact ⟨τ, rfl, hc, frX_refl, sto τ rfl rfl⟩
    · rw [if_neg (show ¬ nI s = nI 2 from fun q => c2 ((nI_eq (by omega) (by decide)).mp q))]
      have ec : cmS s t k (Z) (V) r = r := by unfold cmS; rw [if_neg c1, if_neg (fun q => c2 q.1)]
      rw [ec]
      refine ⟨τ, ?_, hc, frX_refl, sto τ rfl rfl⟩
      by_cases c3 : s = 3
      · rw [c3, if_pos (show nI 3 ≤ nI 3 by decide), xz_0, decide_eq_false (show ¬ ¬ (3 = 3 ∧ r.1 = 3) from fun q => q ⟨rfl, by omega⟩)]
      · rw [if_neg (nI_ge (by omega) (by omega)), xz_1, decide_eq_true (show ¬ (s = 3 ∧ r.1 = 3) from fun q => c3 q.1)]
end CST
