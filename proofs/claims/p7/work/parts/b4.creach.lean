/-! reachName, partOf, reachSymbol of the class -/
section CRD
variable {F : Nat} {c : px_CT} {sk : Nat → Nat × Nat × Nat} {L : Nat} {τ τ' : px_TT} {own : Nat → Nat × Nat} {fs : px_FS} {s : px_TK} {xs : px_NL} {ST rn : Nat → Bool} {u : px_CQ} {t : Nat}
/-- the objects taken, as the class has them -/
theorem TKe_ob (h : TKe sk L own τ fs s xs ST rn) (ht : t < s.2.2.1.length) : ∃ q, s.2.2.1[t]? = some q ∧ q < 64 ∧ cD sk L τ (10 + 2 * q) (11 + 2 * q) (bsO fs q) (tNf fs s.2.2.1 t) (eI τ 8) ∧ cb (eI τ 8) (bsO fs q) (tNf fs s.2.2.1 t) = tB fs s.2.2.1 t ∧ eObj (tB fs s.2.2.1 t) (tNf fs s.2.2.1 t) = 0 ∧ (∀ i, i < 24 → isPe τ (152 + (24 * t + i)) t i (tB fs s.2.2.1 t) (bsO fs q) q (s.2.1.1 (24 * t + i)) (ST (24 * t + i))) ∧ RSy τ t (tB fs s.2.2.1 t) xs 64 ∧ eN τ 1689 t = some (10 + 2 * q) := by
  obtain ⟨q, q1, q2, q3⟩ := obT_at h.2.2.2.2.1.1 ht
  obtain ⟨_, _, hcb, _, _, hD⟩ := CF_ob h.2.2.1 q3
  have hD := hD rfl
  have he := hD.2.2
  rw [hcb] at he
  obtain ⟨r1, r2, r3⟩ := h.2.2.2.1.2.2.2 t q q1
  exact ⟨q, q1, q2, hD, hcb, he, r1, r2, r3⟩
/-- where the definition of a name is -/
theorem home_of {tb : Nat → Nat → Nat} {T p : Nat} {dr : Nat → Bool} {x : List Nat × px_NR} (hc : crem tb τ p x.2) (hb : byP T tb dr x) (h4 : x.2.1 ≤ 4) (hy : ∀ t, t < T → ∀ k, 1 ≤ k → k < oM (tb t) → yOK (tb t) k = true) (hS : ∀ t, t < T → oS (tb t) ≤ 24) : (fI τ p 5 = nI 1 ∧ ∃ y, secN tb dr x.2 = some y ∧ fN τ p 6 = some (152 + y) ∧ y < 24 * T) ∨ (fI τ p 5 ≠ nI 1 ∧ secN tb dr x.2 = none) := by
  obtain ⟨c1, c2, d1, d2, d3, d4, d5⟩ := hc
  unfold byP at hb
  unfold secN
  cases e : x.2.2.2.2.1 with
  | none =>
    rw [e] at hb
    refine Or.inr ⟨?_, rfl⟩
    have hb : x.2.1 = 0 ∨ x.2.1 = 3 ∨ x.2.1 = 4 := hb
    rcases hb with z | z | z
    · rw [d1 z]; decide
    · rw [(d4 (Or.inr z) e).1]; decide
    · rw [(d2 z).1]; decide
  | some q =>
    obtain ⟨t, k⟩ := q
    rw [e] at hb
    have hb : t < T ∧ (1 ≤ k ∧ k < oM (tb t)) ∧ yB (tb t) k ≠ 0 ∧ sOf dr t (tb t) k = x.2.1 ∧ x.2.1 ≠ 0 ∧ yT (tb t) k = x.1 := hb
    obtain ⟨b1, ⟨b2, b3⟩, b4, b5, b6, b7⟩ := hb
    show _ ∨ (_ ∧ (if x.2.1 = 1 ∨ x.2.1 = 3 then secT tb dr t (wNo dr t (tb t) k) else none) = none)
    have hok := hy t b1 k b2 b3
    have hw : wNo dr t (tb t) k ≠ 0 := fun z => b6 (by rw [← b5]; unfold sOf; rw [if_pos z])
    have hwe : wNo dr t (tb t) k = yW (tb t) k ∧ ¬ (0 < yW (tb t) k ∧ yW (tb t) k < 24 ∧ dr (24 * t + yW (tb t) k) = true) := by
      unfold wNo at hw ⊢
      by_cases z : 0 < yW (tb t) k ∧ yW (tb t) k < 24 ∧ dr (24 * t + yW (tb t) k) = true
      · rw [if_pos z] at hw; exact absurd rfl hw
      · rw [if_neg z]; exact ⟨rfl, z⟩
    have hS24 := hS t b1
    by_cases c1 : x.2.1 = 1 ∨ x.2.1 = 3
    · obtain ⟨_, e2, e3⟩ := d5 c1 t k e
      by_cases c3 : yW (tb t) k = 65521
      · right
        rw [e2 c3, if_pos c1, hwe.1, c3]
        refine ⟨by decide, ?_⟩
        unfold secT
        rw [if_neg (fun z => by omega)]
      · left
        obtain ⟨e4, e5⟩ := e3 c3
        have hlt : yW (tb t) k < oS (tb t) := by
          rcases yOK_W hok with z | z | z | z
          · rw [hwe.1] at hw; exact absurd z hw
          · exact absurd z c3
          · exfalso
            have b5' := b5
            rw [sOf_w hw, if_pos z] at b5'
            omega
          · exact z
        have h0 : 0 < yW (tb t) k := by rw [hwe.1] at hw; omega
        have hk := ((of_decide_eq_true hok).2.2.2 b4).1 h0 hlt
        have hdr : dr (24 * t + yW (tb t) k) = false := Bool.eq_false_iff.mpr (fun z => hwe.2 ⟨h0, by omega, z⟩)
        refine ⟨e4, 24 * t + yW (tb t) k, ?_, e5, by omega⟩
        show (if x.2.1 = 1 ∨ x.2.1 = 3 then secT tb dr t (wNo dr t (tb t) k) else none) = _
        rw [if_pos c1, hwe.1]
        unfold secT
        rw [if_pos ⟨h0, hlt, hk, hdr⟩]
    · right
      rw [if_neg c1]
      refine ⟨?_, rfl⟩
      have hs3 := sOf_3 (dr := dr) (t := t) (b := tb t) (k := k)
      have e2 : x.2.1 = 2 := by omega
      rw [(d3 e2).1]
      decide
theorem k_reachName {P : Nat} {x : List Nat × px_NR} (h : RQs sk L own τ fs s xs u) (hW : WP s.2.2.1.length (tB fs s.2.2.1) s.2.1.1 xs) (hx : xs[P]? = some x) : ∃ τ', f_Link_reachName F c 147 (some (pN τ 149 P)) (cH sk L τ) = some ((), cH sk L τ') ∧ RQs sk L own τ' fs s xs (cs1 (secN (tB fs s.2.2.1) s.2.1.1 x.2) (cn1 (comN xs P) u)) ∧ frKr τ τ' := by
  obtain ⟨h1, h2, h3, h4, h5, h6⟩ := id h
  have hS := h1.1
  obtain ⟨z1, z2, z3, z4⟩ := CLm_at h1.2.2.2.1.2.1 hx
  have zq := (h1.2.2.2.1.1 149 P _ (Or.inr (Or.inr rfl)) z2).1
  obtain ⟨p, hp⟩ : ∃ p, p = pN τ 149 P := ⟨_, rfl⟩
  rw [← hp] at z2 z3 zq ⊢
  obtain ⟨τ1, hτ1⟩ : ∃ y, y = tI τ p 13 (bI true) := ⟨_, rfl⟩
  have f1 : frKr τ τ1 := by
    rw [hτ1]
    exact ⟨fun a k q _ _ => tI_ne (Or.inl (by omega)), fun a k _ q => tI_ne (Or.inr q), fun _ _ => rfl, fun _ _ => rfl, fun _ => rfl, fun _ => rfl, fun _ _ => rfl⟩
  have hq1 : RQs sk L own τ1 fs s xs (cn1 (comN xs P) u) := by
    have e1 : (cn1 (comN xs P) u).1 = u.1 ∧ (cn1 (comN xs P) u).2.2 = u.2.2 := by
      unfold cn1
      cases comN xs P <;> exact ⟨rfl, rfl⟩
    refine ⟨TKe_Kr h1 f1 (fun z hz => ?_) (fun i y hy e2 => ?_), ?_, ?_, ?_, ?_, ?_⟩
    · rw [e1.1, hτ1, tI_ne (Or.inl (by have := BK_T (s := s) h1.2.2.2.2.1.1; omega))]
      exact (TKe_part h1 hz).2.1
    · obtain ⟨y1, y2, y3, y4⟩ := CLm_at h1.2.2.2.1.2.1 hy
      by_cases ci : i = P
      · have hn : (cn1 (comN xs P) u).2.1 i = true := by
          unfold comN
          rw [ci] at hy ⊢
          rw [stN_at hy, if_pos e2]
          exact bup_e
        rw [hn, ci, ← hp, hτ1, tI_at]
      · have hn : (cn1 (comN xs P) u).2.1 i = u.2.1 i := by
          unfold comN cn1
          split
          · rfl
          · rename_i n hn
            split at hn
            · have hn : P = n := Option.some.inj hn
              show bup u.2.1 n i = _
              unfold bup
              rw [if_neg (by omega)]
            · cases hn
        have hne : pN τ 149 i ≠ p := NP_ne h1.2.2.2.1.1 (Or.inr (Or.inr rfl)) (Or.inr (Or.inr rfl)) y2 z2 (fun q => ci q.2)
        rw [hn, hτ1, tI_ne (Or.inl hne)]
        exact (h1.2.2.2.1.2.1.2.1 i y hy).2 e2
    · rw [e1.2, hτ1, tI_ne (Or.inl (by omega))]; exact h2
    · rw [e1.2, hτ1]; exact h3
    · rw [e1.2]; exact h4
    · rw [e1.1, e1.2]; exact h5
    · rw [e1.2]; exact h6
  have hc1 := (hq1.1.2.2.2.1.2.1.2.1 P x hx).1
  have ep : pN τ1 149 P = p := by rw [hp, hτ1]; rfl
  rw [ep] at hc1
  have hob : ∀ t, t < s.2.2.1.length → (∀ k, 1 ≤ k → k < oM (tB fs s.2.2.1 t) → yOK (tB fs s.2.2.1 t) k = true) ∧ oS (tB fs s.2.2.1 t) ≤ 24 := fun t ht => by
    obtain ⟨q, _, _, _, _, he, _⟩ := TKe_ob h1 ht
    exact ⟨(eObj_0 he).2.1, (eObj_0 he).1.1.2.1.2⟩
  unfold f_Link_reachName f_Link_reachName_21
  rw [bs, show xpZ _ 5 13 p (nI 1) = _ from C5z13 z3 true, bs, ← hτ1, C5g5 z3, bs]
  rcases home_of hc1 (hW.2.2.1 P x hx) (h1.2.2.2.2.2.1 P x hx) (fun t ht => (hob t ht).1) (fun t ht => (hob t ht).2) with ⟨a1, y, a2, a3, a4⟩ | ⟨a1, a2⟩
  · rw [a1, if_pos rfl, C5n6 z3, bs, a3, c_o (G147 hS), bs, a2]
    obtain ⟨τ2, b1, b2, b3⟩ := k_reachPart (F := F) (c := c) (y := some y) hq1 (fun x e => by cases e; exact a4)
    have b1 : f_Link_reachPart F c 147 (some (152 + y)) (cH sk L τ1) = _ := b1
    exact ⟨τ2, by rw [b1, xb_mk], b2, frKr_trans f1 b3⟩
  · rw [if_neg a1, a2]
    exact ⟨τ1, rfl, hq1, f1⟩
theorem k_object (h : TKe sk L own τ fs s xs ST rn) {q : Nat} (hq : s.2.2.1[t]? = some q) : f_Link_object F c 147 (nI t) (cH sk L τ) = some (some (10 + 2 * q), cH sk L τ) := by
  have hS := h.1
  have hT := BK_T (s := s) h.2.2.2.2.1.1
  have ht := (List.getElem?_eq_some_iff.mp hq).1
  have o147 := G147 hS
  unfold f_Link_object f_Link_object_31 f_Link_object_44
  rw [if_neg (show ¬ nI t < 0 from nI_nlt (b := 0) (Nat.zero_le _) (by omega)), C3g14 o147, bs, h.2.2.2.1.2.2.1, if_neg (nI_ge ht (by omega)), C3r6 o147 (GR_r (v := 1689) h.2.1 (by decide)), bs, c_l (G1689 hS) (by decide), bs, if_neg (nI_ge (by omega) (by omega)), bs, c_aN (G1689 hS) (by decide) (by decide) (by omega), bs, (h.2.2.2.1.2.2.2 t q hq).2.2]
end CRD
