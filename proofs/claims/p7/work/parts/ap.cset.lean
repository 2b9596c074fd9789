/-! settle of the class, whole; a name missed -/
section CSU
variable {F : Nat} {c : px_CT} {sk : Nat → Nat × Nat × Nat} {L : Nat} {τ : px_TT} {tb : Nat → Nat → Nat} {q g base n k t p no : Nat} {S : Nat → Int32} {r : px_NR} {b : Nat → Nat} {dr : Nat → Bool}
theorem sOf_w (h : wNo dr t b k ≠ 0) : sOf dr t b k = (if yW b k = 65522 then 2 else if yB b k = 1 then 3 else 1) := by
  have e : wNo dr t b k = yW b k := by
    unfold wNo at h ⊢
    by_cases c : 0 < yW b k ∧ yW b k < 24 ∧ dr (24 * t + yW b k) = true
    · rw [if_pos c] at h; exact absurd rfl h
    · rw [if_neg c]
  unfold sOf
  rw [if_neg h, e]
theorem yOK_W (h : yOK b k = true) : yW b k = 0 ∨ yW b k = 65521 ∨ yW b k = 65522 ∨ yW b k < oS b := (of_decide_eq_true h).2.1
theorem k_settle (hS : GS sk L) (hF : 8 < F) (hR : GR τ) (hp : ob sk L 5 p) (hpl : 1815 ≤ p) (ht : t < 64) (hno : no < 4128) (h15 : fI τ 147 15 = nI no) (hc : crec tb τ p r) (hr3 : r.1 ≤ 3) (hok : okR r) (hb : tb t = b) (hs : cS sk L τ q g base n S) (hb0 : b = cb S base n) (hk : k < oM b) (hy : yOK b k = true) (hB : yB b k ≠ 0) (hw : wNo dr t b k ≠ 0) : ∃ τ', f_Link_settle F c 147 (some p) (nI t) (some q) (nI (yP b k)) (cH sk L τ) = some (bI (decide (¬ (sOf dr t b k = 3 ∧ r.1 = 3))), cH sk L τ') ∧ crec tb τ' p (cmS (sOf dr t b k) t k (yZ b k) (yV b k) r) ∧ frX p τ τ' ∧ SOr τ τ' p no r := by
  have o := hs.1.1.1.1
  have hO := hs.1.1.1
  obtain ⟨e1, e2, e3⟩ := cS_y hs (show k < oM (cb S base n) by rw [← hb0]; exact hk)
  have hbb := cb_lt S base n (yP (cb S base n) k + 4)
  have n4 := k_num (F := F) (c := c) (x := yP (cb S base n) k + 4) (k := 1) hO hF (by decide) (by omega)
  have n6 := k_num (F := F) (c := c) (x := yP (cb S base n) k + 6) (k := 2) hO hF (by decide) (by omega)
  have n8 := k_num (F := F) (c := c) (x := yP (cb S base n) k + 8) (k := 8) hO hF (by decide) (by omega)
  have n16 := k_ysize (F := F) (c := c) hs hF (show k < oM (cb S base n) by rw [← hb0]; exact hk)
  rw [nm_in (by omega), le_1] at n4
  rw [nm_in (by omega), show le (cb S base n) (yP (cb S base n) k + 6) 2 = yW (cb S base n) k from rfl] at n6
  rw [nm_in (by omega), show le (cb S base n) (yP (cb S base n) k + 8) 8 = yV (cb S base n) k from rfl] at n8
  rw [← hb0] at n4 n6 n8 n16 hbb
  have hW : yW b k < 65536 := by rw [hb0]; exact le_lt (fun x => cb_lt _ _ _ x) _ _
  have hW2 : yW b k = 65521 ∨ yW b k = 65522 ∨ yW b k < 24 := by
    have h24 := hs.1.1.2.1.2.2
    rw [← hb0] at h24
    rcases yOK_W hy with e | e | e | e
    · exact Or.inr (Or.inr (by omega))
    · exact Or.inl e
    · exact Or.inr (Or.inl e)
    · exact Or.inr (Or.inr (by omega))
  have esh : (nI (b (yP b k + 4))) >>> ((nI 4) &&& 31) = nI (yB b k) := by
    rw [pk_shrN (by omega) _ 4 (by decide), show (2 : Nat) ^ 4 = 16 from rfl]
    rfl
  rw [sOf_w hw]
  have hz : yW b k = 65522 → yV b k < 2 ^ 31 ∧ yZ b k < 2 ^ 31 := fun e => by
    have := yOK_c hy hB e
    omega
  unfold f_Link_settle
  rw [bs, c_o o, bs, nI_add, n4, xb_mk, c_o o, bs, nI_add, n6, xb_mk, c_o o, bs, nI_add, n8, xb_mk, c_o o, bs, nI_add, n16, xb_mk, lN_i, lN_i]
  by_cases c1 : yW b k = 65522
  · rw [if_pos (show nI (yW b k) = 65522 by rw [c1]; rfl), if_pos c1]
    exact k_st_76 hS hR hp hpl ht hno h15 hc hr3 hok (by rw [hb]) (by rw [hb]) (Or.inr (Or.inl rfl)) hW ⟨fun _ => c1, fun _ => rfl⟩ hW2 (fun _ => hz c1)
  · rw [if_neg (show ¬ nI (yW b k) = (65522 : Int32) from fun q => c1 ((nI_eq (b := 65522) (by omega) (by decide)).mp q)), if_neg c1, esh]
    have hB16 : yB b k < 16 := by unfold yB; omega
    by_cases c2 : yB b k = 1
    · rw [if_pos (show nI (yB b k) = nI 1 by rw [c2]), if_pos c2]
      exact k_st_76 hS hR hp hpl ht hno h15 hc hr3 hok (by rw [hb]) (by rw [hb]) (Or.inr (Or.inr rfl)) hW ⟨fun q => absurd q (by decide), fun q => absurd q c1⟩ hW2 (fun q => absurd q (by decide))
    · rw [if_neg (show ¬ nI (yB b k) = nI 1 from fun q => c2 ((nI_eq (by omega) (by decide)).mp q)), if_neg c2]
      exact k_st_76 hS hR hp hpl ht hno h15 hc hr3 hok (by rw [hb]) (by rw [hb]) (Or.inl rfl) hW ⟨fun q => absurd q (by decide), fun q => absurd q c1⟩ hW2 (fun q => absurd q (by decide))
/-- a name that is missed -/
theorem k_dn_71 {k2 : Nat → Int32 → Option Nat → Int32 → px_H → Option (Int32 × px_H)} (hF : 8 < F) (hp : ob sk L 5 p) (hpl : 1815 ≤ p) (hc : crec tb τ p r) (hs : cS sk L τ q g base n S) (hb0 : b = cb S base n) (h1 : 1 ≤ k) (hk : k < oM b) : ∃ τ', f_Link_defineNames_71 F c k2 147 (nI t) (some q) (nI k) (some p) (cH sk L τ) = k2 147 (nI t) (some q) (nI (k + 1)) (cH sk L τ') ∧ crec tb τ' p (r.1, (r.2.1 || decide (yB b k = 1)), r.2.2) ∧ frX p τ τ' ∧ fI τ' 147 15 = fI τ 147 15 ∧ eN τ' 1693 = eN τ 1693 := by
  obtain ⟨x1, ⟨a, b', g1, g2, g3⟩, x3⟩ := id hc
  have hB16 : yB b k < 16 := by have := cb_lt S base n (yP b k + 4); rw [← hb0] at this; unfold yB; omega
  have fin : ∀ v : Bool, (v || b') = (r.2.1 || decide (yB b k = 1)) → crec tb (tI τ p 10 (bI v)) p (r.1, (r.2.1 || decide (yB b k = 1)), r.2.2) ∧ frX p τ (tI τ p 10 (bI v)) ∧ fI (tI τ p 10 (bI v)) 147 15 = fI τ 147 15 ∧ eN (tI τ p 10 (bI v)) 1693 = eN τ 1693 := fun v hv => by
    have hI : ∀ k, k ≠ 10 → fI (tI τ p 10 (bI v)) p k = fI τ p k := fun k hk => tI_ne (Or.inr hk)
    refine ⟨⟨(hI 4 (by decide)).trans x1, ⟨v, b', tI_at, (hI 11 (by decide)).trans g2, hv⟩, ?_⟩, frX_I (by decide) (by decide), tI_ne (Or.inl (by omega)), rfl⟩
    unfold cdf
    rw [hI 5 (by decide), hI 13 (by decide), hI 15 (by decide), hI 16 (by decide)]
    exact x3
  unfold f_Link_defineNames_71 f_Link_defineNames_90 f_Link_defineNames_95 f_Link_defineNames_129
  rw [bs, C5g10 hp, bs, g1]
  cases a with
  | true =>
    rw [if_neg (show ¬ bI true = 0 by decide), bs, show xpZ _ 5 10 p (nI 1) = _ from C5z10 hp true, bs, nI_add]
    exact ⟨_, rfl, fin true (by rw [← g3, Bool.true_or, Bool.true_or])⟩
  | false =>
    rw [if_pos (show bI false = 0 from rfl), bs, c_o hs.1.1.1.1, bs, k_bindOf hs hF h1 (by rw [← hb0]; exact hk), ← hb0, xb_mk]
    rw [Bool.false_or] at g3
    by_cases c1 : yB b k = 1
    · rw [if_pos (show nI (yB b k) = nI 1 by rw [c1]), bs, show xpZ _ 5 10 p (nI 1) = _ from C5z10 hp true, bs, nI_add]
      exact ⟨_, rfl, fin true (by rw [decide_eq_true c1, Bool.true_or, Bool.or_true])⟩
    · rw [if_neg (show ¬ nI (yB b k) = nI 1 from fun q => c1 ((nI_eq (by omega) (by decide)).mp q)), bs, show xpZ _ 5 10 p (nI 0) = _ from C5z10 hp false, bs, nI_add]
      exact ⟨_, rfl, fin false (by rw [decide_eq_false c1, Bool.false_or, Bool.or_false, g3])⟩
end CSU
