/-! all sites of the class -/
theorem ex1_0 {g : Nat → Bool} {k : Nat} : ex1 g k 0 = false := rfl
/-- the frame of filling sites -/
def frSi (τ τ' : px_TT) : Prop := (∀ a k, (a ≠ 1711 ∨ (k ≠ 1 ∧ k ≠ 2)) → fI τ' a k = fI τ a k) ∧ (∀ a k, (a ≠ 147 ∨ k ≠ 19) → fJ τ' a k = fJ τ a k) ∧ (∀ a k, fN τ' a k = fN τ a k) ∧ (∀ a, a ≠ 1712 → eI τ' a = eI τ a) ∧ (∀ a, eJ τ' a = eJ τ a) ∧ ∀ a, eN τ' a = eN τ a
theorem frSi_F {τ τ' : px_TT} (f : fF τ τ') : frSi τ τ' := ⟨f.1, fun a k _ => f.2.1 a k, f.2.2⟩
theorem frSi_J {τ τ' : px_TT} {v : Int64} (f : fF τ τ') : frSi τ (tJ τ' 147 19 v) := ⟨f.1, fun a k h => (tJ_ne (by omega)).trans (f.2.1 a k), f.2.2⟩
theorem frZ_S {τ τ' : px_TT} (f : frSi τ τ') : frZ τ τ' := ⟨fun a k h _ _ _ _ => f.1 a k (Or.inl (fun e => h (by unfold Zc; omega))), fun a k _ h2 => f.2.1 a k (by omega), fun a k _ => f.2.2.1 a k, fun a h => f.2.2.2.1 a (fun e => h (by unfold Zc; omega)), fun a _ => f.2.2.2.2.1 a, fun a _ => f.2.2.2.2.2 a⟩
theorem spV_fr {τ τ' : px_TT} {fs : px_FS} {s : px_TK} {x : Nat} (f : fF τ τ') : spV τ' fs s x = spV τ fs s x := by
  unfold spV
  rw [f.2.2.2.2.1, f.2.1, f.2.2.2.2.1]
/-- what is put at the sites -/
def siJ (τ : px_TT) (fs : px_FS) (s : px_TK) (xs : px_NL) (SV : Nat → Nat → Nat → Int64) (t i j : Nat) (y : px_FW) : px_FW := siW (spV τ fs s (24 * t + oI (tB fs s.2.2.1 t) i)) (sH (tB fs s.2.2.1 t) i j) (sL (tB fs s.2.2.1 t) i j) (skY (tB fs s.2.2.1) s.2.1.1 xs t i j) (SV t i j) y
def siI (τ : px_TT) (fs : px_FS) (s : px_TK) (xs : px_NL) (ST : Nat → Bool) (SV : Nat → Nat → Nat → Int64) (t i : Nat) (y : px_FW) : px_FW := if isS (tB fs s.2.2.1 t) i = true ∧ ST (24 * t + oI (tB fs s.2.2.1 t) i) = true then itr (siJ τ fs s xs SV t i) 0 (sN (tB fs s.2.2.1 t) i) y else y
def siT (τ : px_TT) (fs : px_FS) (s : px_TK) (xs : px_NL) (ST : Nat → Bool) (SV : Nat → Nat → Nat → Int64) (t : Nat) (y : px_FW) : px_FW := itr (siI τ fs s xs ST SV t) 0 (oS (tB fs s.2.2.1 t)) y
section CFV
variable {F : Nat} {c : px_CT} {sk : Nat → Nat × Nat × Nat} {L : Nat} {τ0 : px_TT} {own : Nat → Nat × Nat} {fs : px_FS} {s : px_TK} {xs : px_NL} {ST rn : Nat → Bool} {C B : Nat → Nat} {ll sl cpf : List Nat} {tO : Nat → Nat} {th : Nat → Bool} {NA : Nat → Int64} {pp : Nat} {ad : Nat → Nat} {fe3 tp sp fp0 fp1 fp2 bg0 bg1 bg2 : Nat} {on : Bool} {R rn0 : Nat → Bool} {t i q : Nat} {SV : Nat → Nat → Nat → Int64}
theorem k_fss_70 {k2 : Nat → Int32 → px_H → Option (Int32 × px_H)} {k24 : Nat → Int32 → Option Nat → Int32 → px_H → Option (Int32 × px_H)} (hF : 65536 < F) (hr : STr fs s on R ST) (hc : KT c) (hW : WP s.2.2.1.length (tB fs s.2.2.1) s.2.1.1 xs) (hro : RRo s.2.2.1.length (tB fs s.2.2.1) s.2.1.1 xs on R rn0) (hsl : sl = slL s.2.2.1.length (tB fs s.2.2.1) s.2.1.1 xs (sta (tB fs s.2.2.1) s.2.1.1 on R)) (hns : sl.length ≤ 2800) (hSV : SV = svF B tO (tB fs s.2.2.1) s.2.1.1 xs (sta (tB fs s.2.2.1) s.2.1.1 on R) ll sl NA ad sp tp pp) (hL : LAD sk L own τ0 fs s xs ST rn ll sl C B cpf tO th NA pp ad fe3 tp sp fp0 fp1 fp2 bg0 bg1 bg2) (hq : s.2.2.1[t]? = some q) (hi : i < oS (tB fs s.2.2.1 t)) (hs : isS (tB fs s.2.2.1 t) i = true) (hst : ST (24 * t + oI (tB fs s.2.2.1 t) i) = true) (hsN : sN (tB fs s.2.2.1 t) i < 2 ^ 30) : ∀ (d j f : Nat) (τ : px_TT), j + d = sN (tB fs s.2.2.1 t) i → d < f → rF sk L τ → fF τ0 τ → ∃ τ', rF sk L τ' ∧ ((ex1 (ovJ SV (tB fs s.2.2.1) t i) j d = false ∧ fF τ0 τ' ∧ f_Filler_fillSites_70 F c k2 k24 f 1710 (nI t) (some (10 + 2 * q)) (nI i) (some (152 + (24 * t + oI (tB fs s.2.2.1 t) i))) (nI (sN (tB fs s.2.2.1 t) i)) (nI (oP (tB fs s.2.2.1 t) i)) (nI j) (cH sk L τ) = k24 1710 (nI t) (some (10 + 2 * q)) (nI (i + 1)) (cH sk L τ') ∧ ∀ y, fC τ y → fC τ' (itr (siJ τ0 fs s xs SV t i) j d y)) ∨ (ex1 (ovJ SV (tB fs s.2.2.1) t i) j d = true ∧ frSi τ0 τ' ∧ f_Filler_fillSites_70 F c k2 k24 f 1710 (nI t) (some (10 + 2 * q)) (nI i) (some (152 + (24 * t + oI (tB fs s.2.2.1 t) i))) (nI (sN (tB fs s.2.2.1 t) i)) (nI (oP (tB fs s.2.2.1 t) i)) (nI j) (cH sk L τ) = some (nI 0, cH sk L τ'))) := by
  have ht := (List.getElem?_eq_some_iff.mp hq).1
  intro d
  induction d with
  | zero =>
    intro j f τ hj hf h hfr
    obtain ⟨f, rfl⟩ : ∃ x, f = x + 1 := ⟨f - 1, by omega⟩
    refine ⟨τ, h, Or.inl ⟨rfl, hfr, ?_, fun y hy => by rw [itr_0]; exact hy⟩⟩
    unfold f_Filler_fillSites_70 f_Filler_fillSites_130
    rw [if_pos (nI_le (by omega) (by omega)), nI_add]
  | succ d ih =>
    intro j f τ hj hf h hfr
    obtain ⟨f, rfl⟩ : ∃ x, f = x + 1 := ⟨f - 1, by omega⟩
    have hL1 := LAD_Z hL (frZ_F hfr)
    have hS := hL1.1.1.1
    have hR := hL1.1.1.2.1
    have hT := BK_T (s := s) hL1.1.1.2.2.2.2.1.1
    obtain ⟨τ1, a1, r1, f1, u1⟩ := k_fillSite (F := F) (c := c) (t := t) (i := i) (j := j) (SV := SV) hF hr hc hW hro hsl hns hSV hL1 h ht hi hs hst (by omega)
    have e1 : ex1 (ovJ SV (tB fs s.2.2.1) t i) j (d + 1) = (ovJ SV (tB fs s.2.2.1) t i j || ex1 (ovJ SV (tB fs s.2.2.1) t i) (j + 1) d) := ex1_s
    have es : sP (tB fs s.2.2.1 t) i j = oP (tB fs s.2.2.1 t) i + 24 * j := rfl
    rw [e1]
    unfold f_Filler_fillSites_70
    rw [if_neg (nI_ge (by omega) (by omega)), c_o (G1710 hS), bs, pk_mul, nI_add, nI_add, ← es, a1, xb_mk]
    cases eo : ovJ SV (tB fs s.2.2.1) t i j with
    | false =>
      rw [if_neg (show ¬ bI (!false) = 0 by decide), Bool.false_or]
      rw [spV_fr hfr] at u1
      have u2 : ∀ y, fC τ y → fC τ1 (siJ τ0 fs s xs SV t i j y) := fun y hy => by unfold siJ; exact u1 y hy
      clear u1
      obtain ⟨τ2, b1, b2⟩ := ih (j + 1) f τ1 (by omega) (by omega) r1 (frRw_trans hfr f1)
      refine ⟨τ2, b1, ?_⟩
      rcases b2 with ⟨b2, b3, b4, b5⟩ | b2
      · exact Or.inl ⟨b2, b3, b4, fun y hy => by rw [itr_s]; exact b5 _ (u2 y hy)⟩
      · exact Or.inr b2
    | true =>
      obtain ⟨q', hq', _, hD, hcb, he, _⟩ := TKe_ob hL1.1.1 ht
      have eq : q' = q := Option.some.inj (hq'.symm.trans hq)
      subst eq
      have hL2 := LAD_Z hL1 (frZ_F f1)
      obtain ⟨q2, hq2, _, hD2, hcb2, _⟩ := TKe_ob hL2.1.1 ht
      have eq2 : q2 = q' := Option.some.inj (hq2.symm.trans hq)
      subst eq2
      obtain ⟨hpl, hy⟩ := s_place he hi hs (show j < sN (tB fs s.2.2.1 t) i by omega)
      obtain ⟨s1, _⟩ := k_site (F := F) (c := c) hD2 (by omega) hcb2 hpl
      have hoI := (eSit_0 he (isS_1 he hs) hi hs).1
      have hS24 := (eObj_0 he).1.1.2.1.2
      have opp := G_part hS (show 24 * t + oI (tB fs s.2.2.1 t) i < 1536 by omega)
      refine ⟨_, ?_, Or.inr ⟨rfl, frSi_J (v := fJ τ1 (152 + (24 * t + oI (tB fs s.2.2.1 t) i)) 11 + lN (le (tB fs s.2.2.1 t) (sP (tB fs s.2.2.1 t) i j) 8)) (frRw_trans hfr f1), ?_⟩⟩
      · exact ⟨r1.1, r1.2.1, r1.2.2.1, r1.2.2.2.1, r1.2.2.2.2.1, r1.2.2.2.2.2.1, r1.2.2.2.2.2.2⟩
      · rw [if_pos (show bI (!true) = 0 from rfl)]
        unfold f_Filler_fillSites_95
        rw [C1r0 (G1710 hS) (GR_r (v := 147) hL2.1.1.2.1 (by decide)), bs, bs, C8g11 opp, bs, bs, c_o hD2.1.1.1.1.1, bs, pk_mul, nI_add, ← es, s1, xb_mk, C3p19 (G147 hS), bs]
theorem k_fss_24 {k2 : Nat → Int32 → px_H → Option (Int32 × px_H)} (hF : 65536 < F) (hr : STr fs s on R ST) (hc : KT c) (hW : WP s.2.2.1.length (tB fs s.2.2.1) s.2.1.1 xs) (hro : RRo s.2.2.1.length (tB fs s.2.2.1) s.2.1.1 xs on R rn0) (hsl : sl = slL s.2.2.1.length (tB fs s.2.2.1) s.2.1.1 xs (sta (tB fs s.2.2.1) s.2.1.1 on R)) (hns : sl.length ≤ 2800) (hSV : SV = svF B tO (tB fs s.2.2.1) s.2.1.1 xs (sta (tB fs s.2.2.1) s.2.1.1 on R) ll sl NA ad sp tp pp) (hL : LAD sk L own τ0 fs s xs ST rn ll sl C B cpf tO th NA pp ad fe3 tp sp fp0 fp1 fp2 bg0 bg1 bg2) (hq : s.2.2.1[t]? = some q) : ∀ (d i f : Nat) (τ : px_TT), i + d = oS (tB fs s.2.2.1 t) → d < f → rF sk L τ → fF τ0 τ → ∃ τ', rF sk L τ' ∧ ((ex1 (ovI SV (tB fs s.2.2.1) (sta (tB fs s.2.2.1) s.2.1.1 on R) t) i d = false ∧ fF τ0 τ' ∧ f_Filler_fillSites_24 F c k2 f 1710 (nI t) (some (10 + 2 * q)) (nI i) (cH sk L τ) = k2 1710 (nI (t + 1)) (cH sk L τ') ∧ ∀ y, fC τ y → fC τ' (itr (siI τ0 fs s xs ST SV t) i d y)) ∨ (ex1 (ovI SV (tB fs s.2.2.1) (sta (tB fs s.2.2.1) s.2.1.1 on R) t) i d = true ∧ frSi τ0 τ' ∧ f_Filler_fillSites_24 F c k2 f 1710 (nI t) (some (10 + 2 * q)) (nI i) (cH sk L τ) = some (nI 0, cH sk L τ'))) := by
  have ht := (List.getElem?_eq_some_iff.mp hq).1
  intro d
  induction d with
  | zero =>
    intro i f τ hi hf h hfr
    obtain ⟨f, rfl⟩ : ∃ x, f = x + 1 := ⟨f - 1, by omega⟩
    have hL1 := LAD_Z hL (frZ_F hfr)
    obtain ⟨q', hq', _, hD, hcb, he, _⟩ := TKe_ob hL1.1.1 ht
    have eq : q' = q := Option.some.inj (hq'.symm.trans hq)
    subst eq
    have hS24 := (eObj_0 he).1.1.2.1.2
    have h8 := hD.1.1.1.2.2.2.2
    rw [hcb] at h8
    refine ⟨τ, h, Or.inl ⟨rfl, hfr, ?_, fun y hy => by rw [itr_0]; exact hy⟩⟩
    unfold f_Filler_fillSites_24 f_Filler_fillSites_136
    rw [bs, C7g8 hD.1.1.1.1.1, bs, h8, if_pos (nI_le (by omega) (by omega)), nI_add]
  | succ d ih =>
    intro i f τ hi hf h hfr
    obtain ⟨f, rfl⟩ : ∃ x, f = x + 1 := ⟨f - 1, by omega⟩
    have hL1 := LAD_Z hL (frZ_F hfr)
    have hS := hL1.1.1.1
    have hR := hL1.1.1.2.1
    have hiS : i < oS (tB fs s.2.2.1 t) := by omega
    obtain ⟨q', hq', _, hD, hcb, he, _⟩ := TKe_ob hL1.1.1 ht
    have eq : q' = q := Option.some.inj (hq'.symm.trans hq)
    subst eq
    have hS24 := (eObj_0 he).1.1.2.1.2
    have h8 := hD.1.1.1.2.2.2.2
    have h7 := hD.1.1.1.2.2.2.1
    rw [hcb] at h8 h7
    have hRo := (eObj_0 he).1.1.2.2.1
    have hn16 : bsO fs q' + tNf fs s.2.2.1 t ≤ 65536 := hD.1.1.1.1.2.2.2.2.2.2.2.2.1
    have kst := k_stayT (F := F) (c := c) hL1.1.1 (by omega) ht hiS
    have e1 : ex1 (ovI SV (tB fs s.2.2.1) (sta (tB fs s.2.2.1) s.2.1.1 on R) t) i (d + 1) = (ovI SV (tB fs s.2.2.1) (sta (tB fs s.2.2.1) s.2.1.1 on R) t i || ex1 (ovI SV (tB fs s.2.2.1) (sta (tB fs s.2.2.1) s.2.1.1 on R) t) (i + 1) d) := ex1_s
    rw [e1]
    unfold f_Filler_fillSites_24
    rw [bs, C7g8 hD.1.1.1.1.1, bs, h8, if_neg (nI_ge hiS (by omega)), C1r0 (G1710 hS) (GR_r (v := 147) hR (by decide)), bs, c_o (G147 hS), bs, kst, xb_mk]
    by_cases cc : isS (tB fs s.2.2.1 t) i = true ∧ ST (24 * t + oI (tB fs s.2.2.1 t) i) = true
    · rw [if_pos cc]
      have hoI := (eSit_0 he (isS_1 he cc.1) hiS cc.1)
      have hsta : sta (tB fs s.2.2.1) s.2.1.1 on R t (oI (tB fs s.2.2.1 t) i) = true := by
        have e := STr_i hr ht (oI (tB fs s.2.2.1 t) i) (by omega)
        rw [cc.2] at e
        unfold sta
        unfold kpB at e
        rw [decide_eq_true hoI.1, Bool.true_and] at e
        exact e.symm
      have eI1 : ovI SV (tB fs s.2.2.1) (sta (tB fs s.2.2.1) s.2.1.1 on R) t i = ex1 (ovJ SV (tB fs s.2.2.1) t i) 0 (sN (tB fs s.2.2.1 t) i) := by unfold ovI; rw [cc.1, hsta, Bool.true_and, Bool.true_and]
      obtain ⟨k1, k2', k3⟩ := k_sitesOf (F := F) (c := c) hD (by omega) hcb hiS cc.1
      have hsN : sN (tB fs s.2.2.1 t) i < 65536 := by
        have := hoI.2.2.2.1
        unfold sN
        omega
      obtain ⟨τ1, r1, z⟩ := k_fss_70 (F := F) (c := c) (k2 := k2) (k24 := f_Filler_fillSites_24 F c k2 f) (i := i) (SV := SV) hF hr hc hW hro hsl hns hSV hL hq hiS cc.1 cc.2 (by omega) (sN (tB fs s.2.2.1 t) i) 0 F τ (Nat.zero_add _) (by omega) h hfr
      have e57 : ((xo (cH sk L τ) 7 (10 + 2 * q')).bind fun _ => xb (f_ObjectFile_sitesOf F c (10 + 2 * q') (nI i) (cH sk L τ)) fun t7 ph8 => f_Filler_fillSites_57 F c k2 (f_Filler_fillSites_24 F c k2 f) 1710 (nI t) (some (10 + 2 * q')) (nI i) (some (152 + (24 * t + oI (tB fs s.2.2.1 t) i))) t7 ph8) = f_Filler_fillSites_70 F c k2 (f_Filler_fillSites_24 F c k2 f) F 1710 (nI t) (some (10 + 2 * q')) (nI i) (some (152 + (24 * t + oI (tB fs s.2.2.1 t) i))) (nI (sN (tB fs s.2.2.1 t) i)) (nI (oP (tB fs s.2.2.1 t) i)) (nI 0) (cH sk L τ) := by
        rw [c_o hD.1.1.1.1.1, bs, k1, xb_mk]
        unfold f_Filler_fillSites_57
        rw [bs, c_o hD.1.1.1.1.1, bs, k2', xb_mk, lN_i]
      show ∃ τ', rF sk L τ' ∧ ((_ ∧ fF τ0 τ' ∧ ((xo (cH sk L τ) 7 (10 + 2 * q')).bind fun _ => xb (f_ObjectFile_sitesOf F c (10 + 2 * q') (nI i) (cH sk L τ)) fun t7 ph8 => f_Filler_fillSites_57 F c k2 (f_Filler_fillSites_24 F c k2 f) 1710 (nI t) (some (10 + 2 * q')) (nI i) (some (152 + (24 * t + oI (tB fs s.2.2.1 t) i))) t7 ph8) = _ ∧ ∀ y, fC τ y → fC τ' (itr (siI τ0 fs s xs ST SV t) i (d + 1) y)) ∨ (_ ∧ frSi τ0 τ' ∧ ((xo (cH sk L τ) 7 (10 + 2 * q')).bind fun _ => xb (f_ObjectFile_sitesOf F c (10 + 2 * q') (nI i) (cH sk L τ)) fun t7 ph8 => f_Filler_fillSites_57 F c k2 (f_Filler_fillSites_24 F c k2 f) 1710 (nI t) (some (10 + 2 * q')) (nI i) (some (152 + (24 * t + oI (tB fs s.2.2.1 t) i))) t7 ph8) = _))
      rw [e57, eI1]
      rcases z with ⟨z1, z2, z3, z4⟩ | ⟨z1, z2, z3⟩
      · rw [z1, z3, Bool.false_or]
        obtain ⟨τ2, b1, b2⟩ := ih (i + 1) f τ1 (by omega) (by omega) r1 z2
        refine ⟨τ2, b1, ?_⟩
        rcases b2 with ⟨b2, b3, b4, b5⟩ | b2
        · refine Or.inl ⟨b2, b3, b4, fun y hy => ?_⟩
          have eS : siI τ0 fs s xs ST SV t i y = itr (siJ τ0 fs s xs SV t i) 0 (sN (tB fs s.2.2.1 t) i) y := by unfold siI; rw [if_pos cc]
          rw [itr_s, eS]
          exact b5 _ (z4 y hy)
        · exact Or.inr b2
      · rw [z1, z3]
        exact ⟨τ1, r1, Or.inr ⟨by rw [Bool.true_or], z2, rfl⟩⟩
    · rw [if_neg cc]
      have eI0 : ovI SV (tB fs s.2.2.1) (sta (tB fs s.2.2.1) s.2.1.1 on R) t i = false := by
        unfold ovI
        cases e1 : isS (tB fs s.2.2.1 t) i with
        | false => rw [Bool.false_and, Bool.false_and]
        | true =>
          have hoI := (eSit_0 he (isS_1 he e1) hiS e1)
          have e := STr_i hr ht (oI (tB fs s.2.2.1 t) i) (by omega)
          have hST : ST (24 * t + oI (tB fs s.2.2.1 t) i) = false := by cases hh : ST (24 * t + oI (tB fs s.2.2.1 t) i) with | false => rfl | true => exact absurd ⟨e1, hh⟩ cc
          rw [hST] at e
          have hsta : sta (tB fs s.2.2.1) s.2.1.1 on R t (oI (tB fs s.2.2.1 t) i) = false := by
            unfold sta
            unfold kpB at e
            rw [decide_eq_true hoI.1, Bool.true_and] at e
            exact e.symm
          rw [hsta, Bool.true_and, Bool.false_and]
      have kpl := k_placeOf (F := F) (c := c) (i := i) hD.1.1.1.1 (by omega) (hD.1.1.1.2.2.2.1) (by rw [hcb]; omega)
      have e57 : f_Filler_fillSites_57 F c k2 (f_Filler_fillSites_24 F c k2 f) 1710 (nI t) (some (10 + 2 * q')) (nI i) none (nI 0) (cH sk L τ) = f_Filler_fillSites_24 F c k2 f 1710 (nI t) (some (10 + 2 * q')) (nI (i + 1)) (cH sk L τ) := by
        obtain ⟨F', hF'⟩ : ∃ F', F = F' + 1 := ⟨F - 1, by omega⟩
        have e70 : ∀ v, f_Filler_fillSites_70 F c k2 (f_Filler_fillSites_24 F c k2 f) F 1710 (nI t) (some (10 + 2 * q')) (nI i) none (nI 0) v (nI 0) (cH sk L τ) = f_Filler_fillSites_24 F c k2 f 1710 (nI t) (some (10 + 2 * q')) (nI (i + 1)) (cH sk L τ) := fun v => by
          have : f_Filler_fillSites_70 F c k2 (f_Filler_fillSites_24 F c k2 f) F = f_Filler_fillSites_70 F c k2 (f_Filler_fillSites_24 F c k2 f) (F' + 1) := by rw [← hF']
          rw [this]
          unfold f_Filler_fillSites_70 f_Filler_fillSites_130
          rw [if_pos (by decide), nI_add]
        unfold f_Filler_fillSites_57
        rw [bs, c_o hD.1.1.1.1.1, bs, kpl, xb_mk]
        exact e70 _
      show ∃ τ', rF sk L τ' ∧ ((_ ∧ fF τ0 τ' ∧ f_Filler_fillSites_57 F c k2 (f_Filler_fillSites_24 F c k2 f) 1710 (nI t) (some (10 + 2 * q')) (nI i) none (nI 0) (cH sk L τ) = _ ∧ ∀ y, fC τ y → fC τ' (itr (siI τ0 fs s xs ST SV t) i (d + 1) y)) ∨ (_ ∧ frSi τ0 τ' ∧ f_Filler_fillSites_57 F c k2 (f_Filler_fillSites_24 F c k2 f) 1710 (nI t) (some (10 + 2 * q')) (nI i) none (nI 0) (cH sk L τ) = _))
      rw [e57, eI0, Bool.false_or]
      obtain ⟨τ2, b1, b2⟩ := ih (i + 1) f τ (by omega) (by omega) h hfr
      refine ⟨τ2, b1, ?_⟩
      rcases b2 with ⟨b2, b3, b4, b5⟩ | b2
      · refine Or.inl ⟨b2, b3, b4, fun y hy => ?_⟩
        have eS : siI τ0 fs s xs ST SV t i y = y := by unfold siI; rw [if_neg cc]
        rw [itr_s, eS]
        exact b5 y hy
      · exact Or.inr b2
theorem k_fss_2 (hF : 65536 < F) (hr : STr fs s on R ST) (hc : KT c) (hW : WP s.2.2.1.length (tB fs s.2.2.1) s.2.1.1 xs) (hro : RRo s.2.2.1.length (tB fs s.2.2.1) s.2.1.1 xs on R rn0) (hsl : sl = slL s.2.2.1.length (tB fs s.2.2.1) s.2.1.1 xs (sta (tB fs s.2.2.1) s.2.1.1 on R)) (hns : sl.length ≤ 2800) (hSV : SV = svF B tO (tB fs s.2.2.1) s.2.1.1 xs (sta (tB fs s.2.2.1) s.2.1.1 on R) ll sl NA ad sp tp pp) (hL : LAD sk L own τ0 fs s xs ST rn ll sl C B cpf tO th NA pp ad fe3 tp sp fp0 fp1 fp2 bg0 bg1 bg2) : ∀ (d t f : Nat) (τ : px_TT), t + d = s.2.2.1.length → d < f → rF sk L τ → fF τ0 τ → ∃ τ', f_Filler_fillSites_2 F c f 1710 (nI t) (cH sk L τ) = some (bI (!ex1 (ovT SV (tB fs s.2.2.1) (sta (tB fs s.2.2.1) s.2.1.1 on R)) t d), cH sk L τ') ∧ rF sk L τ' ∧ frSi τ0 τ' ∧ (ex1 (ovT SV (tB fs s.2.2.1) (sta (tB fs s.2.2.1) s.2.1.1 on R)) t d = false → fF τ0 τ' ∧ ∀ y, fC τ y → fC τ' (itr (siT τ0 fs s xs ST SV) t d y)) := by
  have hT := BK_T (s := s) hL.1.1.2.2.2.2.1.1
  intro d
  induction d with
  | zero =>
    intro t f τ ht hf h hfr
    obtain ⟨f, rfl⟩ : ∃ x, f = x + 1 := ⟨f - 1, by omega⟩
    have hL1 := LAD_Z hL (frZ_F hfr)
    have hS := hL1.1.1.1
    have hR := hL1.1.1.2.1
    refine ⟨τ, ?_, h, frSi_F hfr, fun _ => ⟨hfr, fun y hy => by rw [itr_0]; exact hy⟩⟩
    unfold f_Filler_fillSites_2 f_Filler_fillSites_142
    rw [C1r0 (G1710 hS) (GR_r (v := 147) hR (by decide)), bs, C3g14 (G147 hS), bs, hL1.1.1.2.2.2.1.2.2.1, if_pos (nI_le (by omega) (by omega))]
    rfl
  | succ d ih =>
    intro t f τ ht hf h hfr
    obtain ⟨f, rfl⟩ : ∃ x, f = x + 1 := ⟨f - 1, by omega⟩
    have hL1 := LAD_Z hL (frZ_F hfr)
    have hS := hL1.1.1.1
    have hR := hL1.1.1.2.1
    have htl : t < s.2.2.1.length := by omega
    obtain ⟨q, hq, _, hD, hcb, he, _⟩ := TKe_ob hL1.1.1 htl
    have kob := k_object (F := F) (c := c) hL1.1.1 hq
    have hS24 := (eObj_0 he).1.1.2.1
    obtain ⟨τ1, r1, z⟩ := k_fss_24 (F := F) (c := c) (k2 := f_Filler_fillSites_2 F c f) (SV := SV) hF hr hc hW hro hsl hns hSV hL hq (oS (tB fs s.2.2.1 t)) 0 F τ (Nat.zero_add _) (by omega) h hfr
    have eT : ovT SV (tB fs s.2.2.1) (sta (tB fs s.2.2.1) s.2.1.1 on R) t = ex1 (ovI SV (tB fs s.2.2.1) (sta (tB fs s.2.2.1) s.2.1.1 on R) t) 0 (oS (tB fs s.2.2.1 t)) := by
      have h0 : ovI SV (tB fs s.2.2.1) (sta (tB fs s.2.2.1) s.2.1.1 on R) t 0 = false := by
        unfold ovI
        have : isS (tB fs s.2.2.1 t) 0 = false := by
          unfold isS
          exact decide_eq_false (fun q => by have := (eObj_g he).1; omega)
        rw [this, Bool.false_and, Bool.false_and]
      obtain ⟨m, hm⟩ : ∃ m, oS (tB fs s.2.2.1 t) = m + 1 := ⟨oS (tB fs s.2.2.1 t) - 1, by omega⟩
      unfold ovT
      rw [hm, ex1_s, h0, Bool.false_or, Nat.add_sub_cancel]
    have e1 : ex1 (ovT SV (tB fs s.2.2.1) (sta (tB fs s.2.2.1) s.2.1.1 on R)) t (d + 1) = (ovT SV (tB fs s.2.2.1) (sta (tB fs s.2.2.1) s.2.1.1 on R) t || ex1 (ovT SV (tB fs s.2.2.1) (sta (tB fs s.2.2.1) s.2.1.1 on R)) (t + 1) d) := ex1_s
    rw [e1, eT]
    unfold f_Filler_fillSites_2
    rw [C1r0 (G1710 hS) (GR_r (v := 147) hR (by decide)), bs, C3g14 (G147 hS), bs, hL1.1.1.2.2.2.1.2.2.1, if_neg (nI_ge htl (by omega)), bs, c_o (G147 hS), bs, kob, xb_mk]
    rcases z with ⟨z1, z2, z3, z4⟩ | ⟨z1, z2, z3⟩
    · rw [z1, z3, Bool.false_or]
      obtain ⟨τ2, b1, b2, b3, b4⟩ := ih (t + 1) f τ1 (by omega) (by omega) r1 z2
      exact ⟨τ2, b1, b2, b3, fun q => ⟨(b4 q).1, fun y hy => by
        have z5 : fC τ1 (siT τ0 fs s xs ST SV t y) := by unfold siT; exact z4 y hy
        rw [itr_s]
        exact (b4 q).2 _ z5⟩⟩
    · rw [z1, z3, Bool.true_or]
      exact ⟨τ1, rfl, r1, z2, fun q => absurd q (by decide)⟩
theorem k_fillSites (hF : 65536 < F) (hr : STr fs s on R ST) (hc : KT c) (hW : WP s.2.2.1.length (tB fs s.2.2.1) s.2.1.1 xs) (hro : RRo s.2.2.1.length (tB fs s.2.2.1) s.2.1.1 xs on R rn0) (hsl : sl = slL s.2.2.1.length (tB fs s.2.2.1) s.2.1.1 xs (sta (tB fs s.2.2.1) s.2.1.1 on R)) (hns : sl.length ≤ 2800) (hSV : SV = svF B tO (tB fs s.2.2.1) s.2.1.1 xs (sta (tB fs s.2.2.1) s.2.1.1 on R) ll sl NA ad sp tp pp) (hL : LAD sk L own τ0 fs s xs ST rn ll sl C B cpf tO th NA pp ad fe3 tp sp fp0 fp1 fp2 bg0 bg1 bg2) (h : rF sk L τ0) : ∃ τ', f_Filler_fillSites F c 1710 (cH sk L τ0) = some (bI (!ex1 (ovT SV (tB fs s.2.2.1) (sta (tB fs s.2.2.1) s.2.1.1 on R)) 0 s.2.2.1.length), cH sk L τ') ∧ rF sk L τ' ∧ frSi τ0 τ' ∧ (ex1 (ovT SV (tB fs s.2.2.1) (sta (tB fs s.2.2.1) s.2.1.1 on R)) 0 s.2.2.1.length = false → fF τ0 τ' ∧ ∀ y, fC τ0 y → fC τ' (itr (siT τ0 fs s xs ST SV) 0 s.2.2.1.length y)) := by
  have hT := BK_T (s := s) hL.1.1.2.2.2.2.1.1
  exact k_fss_2 hF hr hc hW hro hsl hns hSV hL s.2.2.1.length 0 F τ0 (Nat.zero_add _) (by omega) h frRw_refl
end CFV
