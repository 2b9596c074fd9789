/-! openParts of the class: one section that is kept -/
section COQ
variable {F : Nat} {c : px_CT} {sk : Nat → Nat × Nat × Nat} {L : Nat} {τ τ' : px_TT} {q g base n t s p : Nat} {S : Nat → Int32}
theorem cD_sec (h : cD sk L τ q g base n S) (hF : 8 < F) (hs : s < oS (cb S base n)) : f_ObjectFile_lengthOf F c q (nI s) (cH sk L τ) = some (lN (oZ (cb S base n) s), cH sk L τ) ∧ f_ObjectFile_alignOf F c q (nI s) (cH sk L τ) = some (lN (oA (cb S base n) s), cH sk L τ) ∧ f_ObjectFile_placeOf F c q (nI s) (cH sk L τ) = some (lN (oP (cb S base n) s), cH sk L τ) := by
  have hO := h.1.1.1.1
  have h7 := h.1.1.1.2.2.2.1
  have hw := h.1.2.2.1
  have hn : base + n ≤ 65536 := hO.2.2.2.2.2.2.2.2.1
  have hr := hw.2.2.1
  refine ⟨?_, ?_, ?_⟩
  · rw [k_lengthOf hO hF h7 (by omega), nm_in (by omega)]; rfl
  · rw [k_alignOf hO hF h7 (by omega), nm_in (by omega)]; rfl
  · rw [k_placeOf hO hF h7 (by omega), nm_in (by omega)]; rfl
theorem k_isStrings (h : cD sk L τ q g base n S) (hs : s < 24) : f_ObjectFile_isStrings F c q (nI s) (cH sk L τ) = some (bI (decide (s < oS (cb S base n)) && oStr (cb S base n) s), cH sk L τ) := by
  have hb := h.2.1 s (by omega)
  unfold f_ObjectFile_isStrings f_ObjectFile_isStrings_16
  rw [C7g14 h.1.1.1.1.1, bs, ← hb]
  cases e : bt (fI τ q 14) s with
  | false => rw [if_pos ((bt_0 (by omega)).mpr e), xz_0]
  | true =>
    rw [if_neg (fun q => by
      have := (bt_0 (by omega)).mp q
      rw [e] at this; cases this), xz_1]
theorem k_op1 {k2 : Nat → Int32 → Option Nat → Int32 → px_H → Option (Unit × px_H)} (hF : 8 < F) (hp : ob sk L 8 p) (hpl : 152 ≤ p) (hq : q < 138) (hD : cD sk L τ q g base n S) (hs : s < 24) (hk : kpB (cb S base n) s = true) {u : Nat} (hp1 : fI τ p 0 = nI t ∧ fI τ p 1 = nI (u / 8) ∧ fI τ p 2 = nI (u % 8)) (hp3 : fI τ p 3 = nI s) (hp4 : fI τ p 4 = nI (oG (cb S base n) s)) : ∃ τ', f_Link_openParts_73 F c k2 147 (nI t) (some q) (nI s) (some p) (nI (oG (cb S base n) s)) (some p) (nI 1) (cH sk L τ) = k2 147 (nI t) (some q) (nI (s + 1)) (cH sk L τ') ∧ isPt τ' p t s (cb S base n) base u ∧ frPt p τ τ' := by
  have hk2 := (Bool.and_eq_true _ _).mp hk
  have hsS : s < oS (cb S base n) := of_decide_eq_true hk2.1
  have hG : oG (cb S base n) s ≤ 5 := by unfold oG; repeat (first | omega | split)
  have hA := (eObj_a hD.2.2 hsS hk2.2).2
  have o := hD.1.1.1.1.1
  have h5 : ∀ (k : Nat) (v : Int32) (τ0 : px_TT), fI τ0 q 5 = nI base → fI (tI τ0 p k v) q 5 = nI base := fun k v τ0 h => (tI_ne (Or.inl (by omega))).trans h
  have D1 := cD_P (k := 8) (v := nI 1) hD hq hpl
  have D2 := cD_P (k := 9) (v := bI true) D1 hq hpl
  have D3 := cD_P (k := 5) (v := nI (oZ (cb S base n) s)) D2 hq hpl
  have D4 := cD_P (k := 6) (v := nI (if oA (cb S base n) s < 1 then 1 else oA (cb S base n) s)) D3 hq hpl
  have D5 := cD_P (k := 7) (v := nI (base + oP (cb S base n) s)) D4 hq hpl
  have n1 : ¬ nI (oG (cb S base n) s) < 0 := nI_nlt (b := 0) (Nat.zero_le _) (by omega)
  have n2 : 0 ≤ nI (oG (cb S base n) s) := nI_le (a := 0) (Nat.zero_le _) (by omega)
  have eA : (if lN (oA (cb S base n) s) < lN 1 then lN 1 else lN (oA (cb S base n) s)).toInt32 = nI (if oA (cb S base n) s < 1 then 1 else oA (cb S base n) s) := by
    by_cases e : oA (cb S base n) s < 1
    · rw [if_pos ((pk_lLT (by omega) (by decide)).mpr e), if_pos e, lN_i]
    · rw [if_neg (fun z => e ((pk_lLT (by omega) (by decide)).mp z)), if_neg e, lN_i]
  have fin : ∀ (str : Bool), oStr (cb S base n) s = str → ∃ τ', (xpZ (cH sk L (tI (tI (tI (tI (tI τ p 8 (nI 1)) p 9 (bI true)) p 5 (nI (oZ (cb S base n) s))) p 6 (nI (if oA (cb S base n) s < 1 then 1 else oA (cb S base n) s))) p 7 (nI (base + oP (cb S base n) s)))) 8 10 p (bI str)).bind (fun ph2 => (some p).bind fun p3 => (xpJ ph2 8 11 p3 (lN 0)).bind fun ph4 => (xpI ph4 8 12 p3 (nI 0)).bind fun ph5 => k2 147 (nI t) (some q) (nI s + nI 1) ph5) = k2 147 (nI t) (some q) (nI (s + 1)) (cH sk L τ') ∧ isPt τ' p t s (cb S base n) base u ∧ frPt p τ τ' := fun str hstr => by
    rw [C8z10 hp, bs, bs, C8p11 hp, bs, C8p12 hp, bs, nI_add]
    refine ⟨_, rfl, ?_, ⟨fun a k h => ?_, fun a k h => ?_, fun _ _ => rfl, fun _ => rfl, fun _ => rfl, fun _ => rfl⟩⟩
    · unfold isPt
      rw [hk, hstr]
      simp [fI_tI, fI_tJ, hp1.1, hp1.2.1, hp1.2.2, hp3, hp4]
    · simp only [fI_tI, fI_tJ, h, false_and, if_false]
    · simp only [fJ_tI, fJ_tJ, h, false_and, if_false]
  unfold f_Link_openParts_73 f_Link_openParts_88 f_Link_openParts_108 f_Link_openParts_132 f_Link_openParts_157 f_Link_openParts_179 f_Link_openParts_180
  rw [bs, C8p8 hp, bs, if_neg n1, bs, show xpZ _ 8 9 p (nI 1) = _ from C8z9 hp true, bs, if_pos n2, bs, c_o o, bs, (cD_sec D2 hF hsS).1, xb_mk, lN_i, bs, C8p5 hp, bs, if_pos n2, bs, c_o o, bs, (cD_sec D3 hF hsS).2.1, xb_mk, eA, bs, C8p6 hp, bs, if_pos n2, bs, C7g5 o, bs, D4.1.1.1.1.2.2.2.2.2.2.1, c_o o, bs, (cD_sec D4 hF hsS).2.2, xb_mk, lN_i, nI_add, bs, C8p7 hp, bs, if_neg n1, bs, c_o o, bs, k_isStrings D5 hs, xb_mk, decide_eq_true hsS, Bool.true_and]
  cases estr : oStr (cb S base n) s with
  | false =>
    rw [if_pos (show bI false = 0 from rfl), bs]
    exact fin false estr
  | true =>
    rw [if_neg (show ¬ bI true = 0 by decide), bs]
    exact fin true estr
end COQ
