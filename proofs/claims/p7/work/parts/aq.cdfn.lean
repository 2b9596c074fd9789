/-! defineNames of the class -/
section CDN
variable {F : Nat} {c : px_CT} {sk : Nat → Nat × Nat × Nat} {L : Nat} {tb : Nat → Nat → Nat} {q g base u n t N : Nat} {S : Nat → Int32} {own : Nat → Nat × Nat} {b : Nat → Nat} {dr : Nat → Bool} {sg : List (List Nat)}
def DNs (sk : Nat → Nat × Nat × Nat) (L : Nat) (own : Nat → Nat × Nat) (tb : Nat → Nat → Nat) (t : Nat) (b : Nat → Nat) (base u : Nat) (dr : Nat → Bool) (sg : List (List Nat)) (τ : px_TT) (s : px_TS) : Prop := NP sk L τ own ∧ CLn sk L τ tb s.2.1 s.2.2.1 sg ∧ RSy τ t b s.2.1 64 ∧ RPd τ t b base u dr
/-- whom the link blames -/
def BL (sk : Nat → Nat × Nat × Nat) (L : Nat) (τ : px_TT) : Prop := ∃ p w, fN τ 147 13 = some p ∧ ob sk L 5 p ∧ isNm τ p w ∧ okN w
theorem RSy_nm {τ : px_TT} {xs xs' : px_NL} {j : Nat} (h : RSy τ t b xs j) (e : xs'.map Prod.fst = xs.map Prod.fst) : RSy τ t b xs' j := by
  unfold RSy syN at h ⊢
  rw [e]
  exact h
theorem RPd_X {τ τ' : px_TT} {p : Nat} (h : RPd τ t b base u dr) (f : frX p τ τ') (hp : 1815 ≤ p) (ht : t < 64) : RPd τ' t b base u dr := fun i hi => isPd_fr (h i hi) (fun k => f.1 _ k (by omega) (Or.inl (by omega)))
theorem comS_at {k P : Nat} {r : px_NR} {xs : px_NL} {od : List Nat} (h : yT b k ∈ xs.map Prod.fst) (hP : plc (yT b k) (xs.map Prod.fst) = P) (hx : xs[P]? = some (yT b k, r)) : comS dr t b k (xs, od) = if sOf dr t b k = 0 then (true, setR xs P (fun r => (r.1, (r.2.1 || decide (yB b k = 1)), r.2.2)), od) else if sOf dr t b k = 3 ∧ r.1 = 3 then (false, xs, od) else (true, setR xs P (cmS (sOf dr t b k) t k (yZ b k) (yV b k)), if r.1 = 0 then od ++ [P] else od) := by
  have hd : xs.getD P ([], nr0) = (yT b k, r) := by rw [List.getD_eq_getElem?_getD, hx]; rfl
  unfold comS
  show (if sOf dr t b k = 0 then (true, setR (entL (yT b k) xs) (plc (yT b k) (xs.map Prod.fst)) _, od) else if sOf dr t b k = 3 ∧ ((entL (yT b k) xs).getD (plc (yT b k) (xs.map Prod.fst)) ([], nr0)).2.1 = 3 then (false, entL (yT b k) xs, od) else (true, setR (entL (yT b k) xs) (plc (yT b k) (xs.map Prod.fst)) _, if ((entL (yT b k) xs).getD (plc (yT b k) (xs.map Prod.fst)) ([], nr0)).2.1 = 0 then od ++ [plc (yT b k) (xs.map Prod.fst)] else od)) = _
  rw [entL_in h, hP, hd]
theorem DN_upd {τ τ' : px_TT} {s : px_TS} {P p : Nat} {x : List Nat × px_NR} {f : px_NR → px_NR} {od' : List Nat} (ht : t < 64) (h : DNs sk L own tb t b base u dr sg τ s) (hx : s.2.1[P]? = some x) (hp : p = pN τ 149 P) (hf : frX p τ τ') (hc : crec tb τ' p (f x.2)) (ho : fI τ' 147 15 = nI od'.length ∧ ∀ (j d : Nat), od'[j]? = some d → d < s.2.1.length ∧ eN τ' 1693 j = some (pN τ 149 d)) (a : Nat) (bl : Option (List Nat)) : DNs sk L own tb t b base u dr sg τ' (a, setR s.2.1 P f, od', bl) := by
  obtain ⟨h1, h2, h3, h4⟩ := h
  obtain ⟨z1, z2, z3, z4⟩ := CLn_at h2 hx
  have h1815 := (h1 149 P _ (Or.inr (Or.inr rfl)) z2).1
  rw [← hp] at h1815
  rw [hp] at hf hc
  refine ⟨NP_X h1 hf, CLn_upd h2 h1 hx hf hc ho, ?_, RPd_X h4 hf (by rw [← hp]; exact h1815) ht⟩
  refine RSy_nm (RSy_fx h3 (hf.2.2.2.2.2.2 149 (by decide)) (fun k _ => by rw [hf.2.2.2.2.2.2 1692 (by decide)])) ?_
  show (setR s.2.1 P f).map Prod.fst = _
  rw [setR_fst]
theorem od_keep {τ τ' : px_TT} {xs : px_NL} {od : List Nat} (h : CLn sk L τ tb xs od sg) (e1 : fI τ' 147 15 = fI τ 147 15) (e2 : eN τ' 1693 = eN τ 1693) : fI τ' 147 15 = nI od.length ∧ ∀ (j d : Nat), od[j]? = some d → d < xs.length ∧ eN τ' 1693 j = some (pN τ 149 d) := by
  rw [e1, e2]
  exact h.2.2.1
theorem od_app {τ τ' : px_TT} {xs : px_NL} {od : List Nat} {P p : Nat} (h : CLn sk L τ tb xs od sg) (hP : P < xs.length) (hp : p = pN τ 149 P) (e1 : fI τ' 147 15 = nI (od.length + 1)) (e2 : eN τ' 1693 = va_up (eN τ 1693) od.length (some p)) : fI τ' 147 15 = nI (od ++ [P]).length ∧ ∀ (j d : Nat), (od ++ [P])[j]? = some d → d < xs.length ∧ eN τ' 1693 j = some (pN τ 149 d) := by
  refine ⟨by rw [List.length_append, List.length_singleton]; exact e1, fun j d hd => ?_⟩
  by_cases cj : j < od.length
  · rw [List.getElem?_append_left cj] at hd
    obtain ⟨y1, y2⟩ := h.2.2.1.2 j d hd
    rw [e2, va_up_n (by omega)]
    exact ⟨y1, y2⟩
  · have ej : j = od.length := by
      have := (List.getElem?_eq_some_iff.mp hd).1
      rw [List.length_append, List.length_singleton] at this
      omega
    rw [ej, List.getElem?_append_right (Nat.le_refl _), Nat.sub_self] at hd
    have hd : P = d := Option.some.inj hd
    rw [← hd, ej, e2, va_up_a, hp]
    exact ⟨hP, rfl⟩
theorem k_dn_2 (hS : GS sk L) (hF : 65536 < F) (hq : 7 ≤ q ∧ q < 138) (hg7 : 7 ≤ g ∧ g < 140) (ht : t < 64) (hb : b = cb S base n) (htb : tb t = b) (hM : oM b ≤ 64) : ∀ (d k f : Nat) (τ : px_TT) (s : px_TS), k + d = oM b → 1 ≤ k → d < f → s.1 = 0 → okL s.2.1 → AL (fun x => x.2.1 ≤ 3) s.2.1 → s.2.2.1.length + d ≤ 4096 → (∀ j, 1 ≤ j → j < oM b → yB b j ≠ 0 → yT b j ∈ txs s) → GR τ → cD sk L τ q g base n S → DNs sk L own tb t b base u dr sg τ s → ∃ τ', f_Link_defineNames_2 F c f 147 (nI t) (some q) (nI k) (cH sk L τ) = some (bI (decide ((itr (tk1 dr t b) k d s).1 ≠ 1)), cH sk L τ') ∧ DNs sk L own tb t b base u dr sg τ' (itr (tk1 dr t b) k d s) ∧ frTk t N τ τ' ∧ (frTq τ τ' ∧ fI τ' 147 17 = fI τ 147 17) ∧ (((itr (tk1 dr t b) k d s).1 = 0 ∧ fN τ' 147 13 = fN τ 147 13) ∨ ((itr (tk1 dr t b) k d s).1 = 1 ∧ BL sk L τ')) := by
  intro d
  induction d with
  | zero =>
    intro k f τ s hk h1 hf hs0 hok h3 hol hin hR hD hs
    obtain ⟨f, rfl⟩ : ∃ x, f = x + 1 := ⟨f - 1, by omega⟩
    refine ⟨τ, ?_, hs, frTk_refl, ⟨frTq_refl, rfl⟩, Or.inl ⟨hs0, rfl⟩⟩
    unfold f_Link_defineNames_2 f_Link_defineNames_135
    rw [bs, C7g11 hD.1.1.1.1.1, bs, hD.1.2.1.2.1, ← hb, if_pos (nI_le (by omega) (by omega)), itr_0, hs0]
    rfl
  | succ d ih =>
    intro k f τ s hk h1 hf hs0 hok h3 hol hin hR hD hs
    obtain ⟨f, rfl⟩ : ∃ x, f = x + 1 := ⟨f - 1, by omega⟩
    have hcs := hD.1
    have o := hcs.1.1.1.1
    have hkM : k < oM b := by omega
    have hkM' : k < oM (cb S base n) := by rw [← hb]; exact hkM
    obtain ⟨hn, hC, hRS, hRP⟩ := id hs
    have hy : yOK b k = true := by rw [hb]; exact (eObj_0 hD.2.2).2.1 k h1 hkM'
    rw [itr_s]
    have go : ∀ (s1 : px_TS) (τ1 : px_TT), s1 = tk1 dr t b k s → s1.1 = 0 → s1.2.1.map Prod.fst = s.2.1.map Prod.fst → okL s1.2.1 → AL (fun x => x.2.1 ≤ 3) s1.2.1 → s1.2.2.1.length ≤ s.2.2.1.length + 1 → DNs sk L own tb t b base u dr sg τ1 s1 → frTk t N τ τ1 → (frTq τ τ1 ∧ fI τ1 147 17 = fI τ 147 17) → fN τ1 147 13 = fN τ 147 13 → ∃ τ', f_Link_defineNames_2 F c f 147 (nI t) (some q) (nI (k + 1)) (cH sk L τ1) = some (bI (decide ((itr (tk1 dr t b) (k + 1) d (tk1 dr t b k s)).1 ≠ 1)), cH sk L τ') ∧ DNs sk L own tb t b base u dr sg τ' (itr (tk1 dr t b) (k + 1) d (tk1 dr t b k s)) ∧ frTk t N τ τ' ∧ (frTq τ τ' ∧ fI τ' 147 17 = fI τ 147 17) ∧ (((itr (tk1 dr t b) (k + 1) d (tk1 dr t b k s)).1 = 0 ∧ fN τ' 147 13 = fN τ 147 13) ∨ ((itr (tk1 dr t b) (k + 1) d (tk1 dr t b k s)).1 = 1 ∧ BL sk L τ')) := fun s1 τ1 e1 e2 e3 e4 e5 e6 e7 e8 x8 e9 => by
      rw [← e1]
      obtain ⟨τ', j1, j2, j3, ⟨x9, x10⟩, j4⟩ := ih (k + 1) f τ1 s1 (by omega) (by omega) (by omega) e2 e4 e5 (by omega) (fun j a1 a2 a3 => by show _ ∈ s1.2.1.map Prod.fst; rw [e3]; exact hin j a1 a2 a3) (GR_Tk hR e8) (cD_mv hD EX_refl (SF_Tk e8) (by omega) hg7) e7
      exact ⟨τ', j1, j2, frTk_trans e8 j3 (Nat.le_refl _), ⟨frTq_trans x8.1 x9, x10.trans x8.2⟩, j4.imp (fun q => ⟨q.1, q.2.trans e9⟩) id⟩
    obtain ⟨y1, y2⟩ := hRS k (by omega)
    unfold f_Link_defineNames_2
    rw [bs, C7g11 o, bs, hcs.2.1.2.1, ← hb, if_neg (nI_ge hkM (by omega)), c_o (G147 hS), bs, k_nameOf hS hR ht (by omega), y1, xb_mk]
    by_cases cB : yB b k = 0
    · have e : syN τ b s.2.1 k = none := by
        unfold syN hsN
        rw [if_neg (show ¬ decide (1 ≤ k ∧ k < oM b ∧ yB b k ≠ 0) = true from fun q => (of_decide_eq_true q).2.2 cB)]
      rw [e]
      show ∃ τ', f_Link_defineNames_129 F c (f_Link_defineNames_2 F c f) 147 (nI t) (some q) (nI k) (cH sk L τ) = _ ∧ _
      unfold f_Link_defineNames_129
      rw [nI_add]
      exact go s τ (by unfold tk1; rw [if_pos cB]) hs0 rfl hok h3 (by omega) hs frTk_refl ⟨frTq_refl, rfl⟩ rfl
    · have hhs : hsN b k = true := decide_eq_true ⟨h1, hkM, cB⟩
      have y2 := y2 hhs
      have hpl := plc_get y2
      obtain ⟨P, hP⟩ : ∃ P, plc (yT b k) (s.2.1.map Prod.fst) = P := ⟨_, rfl⟩
      rw [hP] at hpl
      obtain ⟨r, hx⟩ : ∃ r, s.2.1[P]? = some (yT b k, r) := by
        rw [List.getElem?_map] at hpl
        cases e : s.2.1[P]? with
        | none => rw [e] at hpl; cases hpl
        | some x =>
          rw [e] at hpl
          have hpl : x.1 = yT b k := Option.some.inj hpl
          exact ⟨x.2, by rw [← hpl]⟩
      have hPl : P < s.2.1.length := (List.getElem?_eq_some_iff.mp hx).1
      obtain ⟨p, hp⟩ : ∃ p, p = pN τ 149 P := ⟨_, rfl⟩
      have e : syN τ b s.2.1 k = some p := by
        unfold syN
        rw [if_pos hhs, hP, hp]
      obtain ⟨z1, z2, z3, z4⟩ := CLn_at hC hx
      have zq := (hn 149 P _ (Or.inr (Or.inr rfl)) z2).1
      have hcr := (hC.2.1 P _ hx).1
      rw [← hp] at z2 z3 z4 zq hcr
      have hcr : crec tb τ p r := hcr
      have hr3 : r.1 ≤ 3 := h3 P _ hx
      have hro : okR r := hok P _ hx
      have hno := hC.2.2.1.1
      have eT : tk1 dr t b k s = if (comS dr t b k (s.2.1, s.2.2.1)).1 = true then (s.1, (comS dr t b k (s.2.1, s.2.2.1)).2.1, (comS dr t b k (s.2.1, s.2.2.1)).2.2, s.2.2.2) else (1, (comS dr t b k (s.2.1, s.2.2.1)).2.1, (comS dr t b k (s.2.1, s.2.2.1)).2.2, some (yT b k)) := by
        unfold tk1
        rw [if_neg cB, if_neg (by omega)]
      rw [comS_at y2 hP hx] at eT
      have hW : yW b k < 65536 := by rw [hb]; exact le_lt (fun x => cb_lt _ _ _ x) _ _
      rw [e]
      -- the name is missed
      have miss : sOf dr t b k = 0 → ∃ τ', f_Link_defineNames_71 F c (f_Link_defineNames_2 F c f) 147 (nI t) (some q) (nI k) (some p) (cH sk L τ) = some (bI (decide ((itr (tk1 dr t b) (k + 1) d (tk1 dr t b k s)).1 ≠ 1)), cH sk L τ') ∧ DNs sk L own tb t b base u dr sg τ' (itr (tk1 dr t b) (k + 1) d (tk1 dr t b k s)) ∧ frTk t N τ τ' ∧ (frTq τ τ' ∧ fI τ' 147 17 = fI τ 147 17) ∧ (((itr (tk1 dr t b) (k + 1) d (tk1 dr t b k s)).1 = 0 ∧ fN τ' 147 13 = fN τ 147 13) ∨ ((itr (tk1 dr t b) (k + 1) d (tk1 dr t b k s)).1 = 1 ∧ BL sk L τ')) := fun hw => by
        obtain ⟨τ1, a1, a2, a3, a4, a5⟩ := k_dn_71 (F := F) (c := c) (t := t) (k2 := f_Link_defineNames_2 F c f) (by omega) z3 zq hcr hcs hb h1 hkM
        rw [if_pos hw, if_pos rfl] at eT
        rw [a1]
        have hfn : fN τ1 147 13 = fN τ 147 13 := a3.2.2.1 147 13 (by omega)
        have ok1 : okL (setR s.2.1 P (fun r => (r.1, (r.2.1 || decide (yB b k = 1)), r.2.2))) := AL_setR (P := fun x => okR x.2) hok (fun x hx' => ⟨(hok P x hx').1, (hok P x hx').2⟩)
        have ok3 : AL (fun x => x.2.1 ≤ 3) (setR s.2.1 P (fun r => (r.1, (r.2.1 || decide (yB b k = 1)), r.2.2))) := AL_setR (P := fun x => x.2.1 ≤ 3) h3 (fun x hx' => h3 P x hx')
        have fs1 : (setR s.2.1 P (fun r => (r.1, (r.2.1 || decide (yB b k = 1)), r.2.2))).map Prod.fst = s.2.1.map Prod.fst := setR_fst
        exact go _ τ1 eT.symm hs0 fs1 ok1 ok3 (Nat.le_succ _) (DN_upd (f := fun r => (r.1, (r.2.1 || decide (yB b k = 1)), r.2.2)) ht hs hx hp a3 a2 (od_keep hC a4 a5) _ _) (frTk_X hn z2 a3) ⟨frTq_X a3 zq, a3.1 147 17 (by omega) (Or.inr (by decide))⟩ hfn
      have sett : wNo dr t b k ≠ 0 → ∃ τ', ((xgI (cH sk L τ) 7 10 q).bind fun t2 => (xo (cH sk L τ) 3 147).bind fun _ => xb (f_Link_settle F c 147 (some p) (nI t) (some q) (t2 + ((nI 24) * nI k)) (cH sk L τ)) fun t3 ph4 => if t3 = 0 then f_Link_defineNames_121 F c 147 (some p) ph4 else f_Link_defineNames_129 F c (f_Link_defineNames_2 F c f) 147 (nI t) (some q) (nI k) ph4) = some (bI (decide ((itr (tk1 dr t b) (k + 1) d (tk1 dr t b k s)).1 ≠ 1)), cH sk L τ') ∧ DNs sk L own tb t b base u dr sg τ' (itr (tk1 dr t b) (k + 1) d (tk1 dr t b k s)) ∧ frTk t N τ τ' ∧ (frTq τ τ' ∧ fI τ' 147 17 = fI τ 147 17) ∧ (((itr (tk1 dr t b) (k + 1) d (tk1 dr t b k s)).1 = 0 ∧ fN τ' 147 13 = fN τ 147 13) ∨ ((itr (tk1 dr t b) (k + 1) d (tk1 dr t b k s)).1 = 1 ∧ BL sk L τ')) := fun hw => by
        have hS0 : sOf dr t b k ≠ 0 := by rw [sOf_w hw]; repeat (first | omega | split)
        obtain ⟨e1, e2, e3⟩ := cS_y hcs hkM'
        obtain ⟨τ1, a1, a2, a3, a4⟩ := k_settle (F := F) (c := c) (dr := dr) hS (by omega) hR z3 zq ht (show s.2.2.1.length < 4128 by omega) hno hcr hr3 hro htb hcs hb hkM hy cB hw
        rw [C7g10 o, bs, c_o (G147 hS), bs, e1, pk_mul, nI_add, show oP (cb S base n) (oY (cb S base n)) + 24 * k = yP (cb S base n) k from rfl, ← hb, a1, xb_mk]
        rw [if_neg hS0] at eT
        have hfn : fN τ1 147 13 = fN τ 147 13 := a3.2.2.1 147 13 (by omega)
        have ft := frTk_X (t := t) (N := N) hn z2 a3
        by_cases cd : sOf dr t b k = 3 ∧ r.1 = 3
        · rw [if_pos cd, if_neg (show ¬ false = true by decide)] at eT
          rw [decide_eq_false (fun q => q cd), if_pos (show bI false = 0 from rfl)]
          have ec : cmS (sOf dr t b k) t k (yZ b k) (yV b k) r = r := by unfold cmS; rw [if_neg (by omega), if_neg (by omega)]
          rw [ec] at a2
          have hset : setR s.2.1 P (fun r => r) = s.2.1 := by
            unfold setR
            rw [hx]
            exact List.ext_getElem? (fun j => by
              by_cases cj : j = P
              · rw [cj, List.getElem?_set_self hPl, hx]
              · rw [List.getElem?_set_ne (fun e => cj e.symm)])
          have hd1 : DNs sk L own tb t b base u dr sg τ1 (1, setR s.2.1 P (fun r => r), s.2.2.1, some (yT b k)) := DN_upd (f := fun r => r) ht hs hx hp a3 a2 (od_keep hC ((a4.2 (by omega)).1.trans hno.symm) (a4.2 (by omega)).2) 1 (some (yT b k))
          rw [hset] at hd1
          have n1 := hd1.1
          obtain ⟨w1, w2, w3, w4⟩ := CLn_at hd1.2.1 hx
          have e149 : eN τ1 149 = eN τ 149 := a3.2.2.2.2.2.2 149 (by decide)
          have ep : pN τ1 149 P = p := by unfold pN; rw [e149, z2]; rfl
          rw [ep] at w2 w3 w4
          have eI : itr (tk1 dr t b) (k + 1) d (tk1 dr t b k s) = (1, s.2.1, s.2.2.1, some (yT b k)) := by
            rw [eT]
            exact itr_idr d (k + 1) (fun j j1 j2 => tk1_stop rfl (fun h => hin j (by omega) (by omega) h))
          rw [eI]
          refine ⟨tN τ1 147 13 (some p), ?_, ?_, frTk_trans ft (frTk_b n1) (Nat.le_refl _), ⟨frTq_trans (frTq_X a3 zq) ⟨rfl, fun _ _ _ _ => rfl, rfl⟩, a3.1 147 17 (by omega) (Or.inr (by decide))⟩, Or.inr ⟨rfl, p, yT b k, by rw [fN_tN, if_pos ⟨rfl, rfl⟩], w3, ?_, w1⟩⟩
          · unfold f_Link_defineNames_121
            rw [C3w13 (G147 hS), bs]
            rfl
          · exact ⟨NP_fx n1 (fun _ _ => rfl), CLn_fx hd1.2.1 n1 EX_refl (fun _ _ _ => rfl) (fun _ _ _ => rfl) (fun a j h => by rw [fN_tN, if_neg (by omega)]) rfl rfl, RSy_fx hd1.2.2.1 rfl (fun _ _ => rfl), fun i hi => isPd_fr (hd1.2.2.2 i hi) (fun _ => rfl)⟩
          · exact w4
        · rw [if_neg cd, if_pos rfl] at eT
          rw [decide_eq_true cd, if_neg (show ¬ bI true = 0 by decide)]
          unfold f_Link_defineNames_129
          rw [nI_add]
          have ok1 : okL (setR s.2.1 P (cmS (sOf dr t b k) t k (yZ b k) (yV b k))) := AL_setR (P := fun x => okR x.2) hok (fun x hx' => okR_cm (hok P x hx') (by have := sOf_3 (dr := dr) (t := t) (b := b) (k := k); omega) (fun e2 => by have := yOK_c hy cB (sOf_2 e2); omega) (fun e2 => by have := yOK_c hy cB (sOf_2 e2); omega))
          have ok3 : AL (fun x => x.2.1 ≤ 3) (setR s.2.1 P (cmS (sOf dr t b k) t k (yZ b k) (yV b k))) := AL_setR (P := fun x => x.2.1 ≤ 3) h3 (fun x hx' => by
            have := h3 P x hx'
            have h4 := sOf_3 (dr := dr) (t := t) (b := b) (k := k)
            show (cmS _ _ _ _ _ x.2).1 ≤ 3
            unfold cmS dfR cmR
            repeat (first | exact this | exact h4 | split))
          by_cases cr : r.1 = 0
          · rw [if_pos cr] at eT
            obtain ⟨b1, b2⟩ := a4.1 cr
            exact go _ τ1 eT.symm hs0 setR_fst ok1 ok3 (by show (s.2.2.1 ++ [P]).length ≤ _; rw [List.length_append, List.length_singleton]; exact Nat.le_refl _) (DN_upd (f := cmS (sOf dr t b k) t k (yZ b k) (yV b k)) ht hs hx hp a3 a2 (od_app hC hPl hp b1 b2) _ _) ft ⟨frTq_X a3 zq, a3.1 147 17 (by omega) (Or.inr (by decide))⟩ hfn
          · rw [if_neg cr] at eT
            obtain ⟨b1, b2⟩ := a4.2 cr
            exact go _ τ1 eT.symm hs0 setR_fst ok1 ok3 (Nat.le_succ _) (DN_upd (f := cmS (sOf dr t b k) t k (yZ b k) (yV b k)) ht hs hx hp a3 a2 (od_keep hC (b1.trans hno.symm) b2) _ _) ft ⟨frTq_X a3 zq, a3.1 147 17 (by omega) (Or.inr (by decide))⟩ hfn
      show ∃ τ', ((xo (cH sk L τ) 7 q).bind _) = _ ∧ _
      rw [c_o o, bs, k_whereOf hcs (by omega) hkM', ← hb, xb_mk]
      have e59 : ∀ s0 : Bool, f_Link_defineNames_59 F c (f_Link_defineNames_2 F c f) 147 (nI t) (some q) (nI k) (some p) (nI (yW b k)) (bI s0) (cH sk L τ) = if yW b k = 0 ∨ s0 = true then f_Link_defineNames_71 F c (f_Link_defineNames_2 F c f) 147 (nI t) (some q) (nI k) (some p) (cH sk L τ) else ((xgI (cH sk L τ) 7 10 q).bind fun t2 => (xo (cH sk L τ) 3 147).bind fun _ => xb (f_Link_settle F c 147 (some p) (nI t) (some q) (t2 + ((nI 24) * nI k)) (cH sk L τ)) fun t3 ph4 => if t3 = 0 then f_Link_defineNames_121 F c 147 (some p) ph4 else f_Link_defineNames_129 F c (f_Link_defineNames_2 F c f) 147 (nI t) (some q) (nI k) ph4) := fun s0 => by
        unfold f_Link_defineNames_59
        by_cases c0 : yW b k = 0
        · rw [if_pos (show nI (yW b k) = 0 by rw [c0]; rfl), if_pos (Or.inl c0)]
        · rw [if_neg (show ¬ nI (yW b k) = 0 from fun q => c0 ((nI_eq (b := 0) (by omega) (by decide)).mp q))]
          cases s0 with
          | true => rw [if_neg (show ¬ bI true = 0 by decide), if_pos (Or.inr rfl)]
          | false => rw [if_pos (show bI false = 0 from rfl), if_neg (show ¬ (yW b k = 0 ∨ false = true) from fun q => q.elim c0 (fun q => nomatch q)), bs]
      have tot : ∀ s0 : Bool, (wNo dr t b k = 0 ↔ (yW b k = 0 ∨ s0 = true)) → ∃ τ', f_Link_defineNames_59 F c (f_Link_defineNames_2 F c f) 147 (nI t) (some q) (nI k) (some p) (nI (yW b k)) (bI s0) (cH sk L τ) = some (bI (decide ((itr (tk1 dr t b) (k + 1) d (tk1 dr t b k s)).1 ≠ 1)), cH sk L τ') ∧ DNs sk L own tb t b base u dr sg τ' (itr (tk1 dr t b) (k + 1) d (tk1 dr t b k s)) ∧ frTk t N τ τ' ∧ (frTq τ τ' ∧ fI τ' 147 17 = fI τ 147 17) ∧ (((itr (tk1 dr t b) (k + 1) d (tk1 dr t b k s)).1 = 0 ∧ fN τ' 147 13 = fN τ 147 13) ∨ ((itr (tk1 dr t b) (k + 1) d (tk1 dr t b k s)).1 = 1 ∧ BL sk L τ')) := fun s0 hw => by
        rw [e59 s0]
        by_cases cw : yW b k = 0 ∨ s0 = true
        · rw [if_pos cw]
          exact miss (by unfold sOf; rw [if_pos (hw.mpr cw)])
        · rw [if_neg cw]
          exact sett (fun q => cw (hw.mp q))
      by_cases c24 : 24 ≤ yW b k
      · rw [if_pos (nI_le c24 (by omega))]
        refine tot false ⟨fun q => ?_, fun q => ?_⟩
        · unfold wNo at q
          rw [if_neg (by omega)] at q
          exact Or.inl q
        · rcases q with q | q
          · omega
          · cases q
      · rw [if_neg (nI_ge (by omega) (by omega)), c_o (G147 hS), bs, k_part hS hR ht (by omega), xb_mk, bs, C8g8 (G_part hS (show 24 * t + yW b k < 1536 by omega)), bs, (hRP (yW b k) (by omega)).2.2.2.1]
        by_cases cdr : dr (24 * t + yW b k) = true
        · rw [if_pos cdr, if_pos rfl]
          refine tot true ⟨fun _ => Or.inr rfl, fun _ => ?_⟩
          unfold wNo
          by_cases c0 : yW b k = 0
          · rw [if_neg (by omega)]; exact c0
          · rw [if_pos ⟨by omega, by omega, cdr⟩]
        · rw [if_neg cdr, if_neg (show ¬ nI (if kpB b (yW b k) = true then 1 else 0) = nI 2 from fun q => by
            have := (nI_eq (by split <;> omega) (by decide)).mp q
            split at this <;> omega)]
          refine tot false ⟨fun q => ?_, fun q => ?_⟩
          · unfold wNo at q
            rw [if_neg (fun w => cdr w.2.2)] at q
            exact Or.inl q
          · unfold wNo
            rcases q with q | q
            · split
              · rfl
              · exact q
            · cases q
end CDN
