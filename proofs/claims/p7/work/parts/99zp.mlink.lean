/-! link of the reference: pool, slots, layout, sites, writing -/
def naF (OV : Nat → Nat → Int64) (OK : Nat → Nat) (na : Nat → Nat) (xs : px_NL) (j : Nat) : Int64 := naV OV OK na j (xs.getD j ([], nr0)).2
def svF (B : Nat → Nat) (tO : Nat → Nat) (tb : Nat → Nat → Nat) (dr : Nat → Bool) (xs : px_NL) (sy : Nat → Nat → Bool) (ll sl : List Nat) (NA : Nat → Int64) (ad : Nat → Nat) (sp tp pp : Nat) (t i j : Nat) : Int64 := siV B (pf0 B tO tb ll) tO tb dr xs sy sl (syA tb xs (ownV B (pf0 B tO tb ll) tO tb dr sy pp ad) NA) (siA tb ad t i j) sp tp pp t i j
/-- the answer of a link whose names are all there -/
def lnE (T : Nat) (tO : Nat → Nat) (tb : Nat → Nat → Nat) (dr : Nat → Bool) (xs : px_NL) (od : List Nat) (on : Bool) (rn : Nat → Bool) (B : Nat → Nat) (sy : Nat → Nat → Bool) (ll sl : List Nat) (th : Nat → Bool) (a : Nat) : Prop := ∃ (fe0 bg0 : Nat) (G0 : px_PG) (fe1 mem1 bg1 : Nat) (G1 : px_PG) (fe2 mem2 bg2 : Nat) (G4 G5 G2 : px_PG) (sp : Nat) (G3 CM : px_PG) (fe3 : Nat), LYe B tO tb ll xs od sl.length on rn th fe0 bg0 G0 fe1 mem1 bg1 G1 fe2 mem2 bg2 G4 G5 G2 sp G3 CM fe3 ∧ a = if lyA th (G0.1 - bg0) (G1.1 + psz B (pf0 B tO tb ll) - bg1) (CM.1 - bg2) fe3 = true then 3 else if ex1 (ovT (svF B tO tb dr xs sy ll sl (naF (ownV B (pf0 B tO tb ll) tO tb dr sy G1.1 G3.2.1) (ownK G0.1 bg2 (sp + 8 * sl.length - bg2) (CM.2.2.getD CM.1) (CM.1 - bg2)) CM.2.1 xs) G3.2.1 sp (tpN bg2 (ll.foldl (ft1 tb G3.2.1) (false, 0, 1, 0))) G1.1) tb sy) 0 T = true then 4 else 0
/-- all that the layout found -/
abbrev px_VV : Type := Nat × Nat × px_PG × Nat × Nat × Nat × px_PG × Nat × Nat × Nat × px_PG × px_PG × px_PG × Nat × px_PG × px_PG × Nat
def vFe (V : px_VV) : Nat := V.2.2.2.2.2.2.2.2.2.2.2.2.2.2.2.2
/-- the addresses of a link: of sections, of names -/
def LKX (tO : Nat → Nat) (tb : Nat → Nat → Nat) (dr : Nat → Bool) (xs : px_NL) (od : List Nat) (on : Bool) (rn : Nat → Bool) (B : Nat → Nat) (sy : Nat → Nat → Bool) (ll sl : List Nat) (th : Nat → Bool) (ad : Nat → Nat) (NA : Nat → Int64) (V : px_VV) : Prop := ∃ (fe0 bg0 : Nat) (G0 : px_PG) (fe1 mem1 bg1 : Nat) (G1 : px_PG) (fe2 mem2 bg2 : Nat) (G4 G5 G2 : px_PG) (sp : Nat) (G3 CM : px_PG) (fe3 : Nat), LYe B tO tb ll xs od sl.length on rn th fe0 bg0 G0 fe1 mem1 bg1 G1 fe2 mem2 bg2 G4 G5 G2 sp G3 CM fe3 ∧ ad = G3.2.1 ∧ NA = naF (ownV B (pf0 B tO tb ll) tO tb dr sy G1.1 G3.2.1) (ownK G0.1 bg2 (sp + 8 * sl.length - bg2) (CM.2.2.getD CM.1) (CM.1 - bg2)) CM.2.1 xs ∧ V = (fe0, bg0, G0, fe1, mem1, bg1, G1, fe2, mem2, bg2, G4, G5, G2, sp, G3, CM, fe3)
/-- the file's size, the segments that are there -/
def LKZ (σ : px_S) (fe : Nat) (th : Nat → Bool) : Prop := fe ≤ 65536 ∧ gI σ 43 = nI fe ∧ gI σ 15 = nI (sgN th 3) ∧ ∀ j, j < 3 → gA σ 59 j = bI (th j)
/-- what a link that was done leaves for the calls after it -/
def LKD (σ : px_S) (od : List Nat) : Prop := (∃ fe, fe ≤ 65536 ∧ gI σ 43 = nI fe) ∧ (∀ (Q n : Nat), od[Q]? = some n → okS (gA σ 39 n)) ∧ ∃ th : Nat → Bool, gI σ 15 = nI (sgN th 3) ∧ ∀ j, j < 3 → gA σ 59 j = bI (th j)
section MLV
variable {F m : Nat} {h : px_H} {σ : px_S} {a : Nat}
theorem sk_197 (hm : m ≤ h.length) (h13 : gI σ 13 = nI a) (h0 : a ≠ 0) (h1 : a < 2 ^ 31) : f_M_link_197 F m (mh m h σ) = some (nI a, mh m h σ) := by
  unfold f_M_link_197 f_M_link_208
  rw [Mg13 hm, bs, h13, if_neg (show ¬ nI a = 0 from fun q => h0 ((nI_eq (b := 0) (by omega) (by decide)).mp q)), bs]
theorem sk_186 (hm : m ≤ h.length) (h13 : gI σ 13 = nI a) (h0 : a ≠ 0) (h1 : a < 2 ^ 31) : f_M_link_186 F m (mh m h σ) = some (nI a, mh m h σ) := by
  unfold f_M_link_186
  rw [Mg13 hm, bs, h13, if_neg (show ¬ nI a = 0 from fun q => h0 ((nI_eq (b := 0) (by omega) (by decide)).mp q)), sk_197 hm h13 h0 h1]
theorem sk_174 (hm : m ≤ h.length) (h13 : gI σ 13 = nI a) (h0 : a ≠ 0) (h1 : a < 2 ^ 31) : f_M_link_174 F m (mh m h σ) = some (nI a, mh m h σ) := by
  unfold f_M_link_174
  rw [Mg13 hm, bs, h13, if_neg (show ¬ nI a = 0 from fun q => h0 ((nI_eq (b := 0) (by omega) (by decide)).mp q)), sk_186 hm h13 h0 h1]
theorem sk_163 (hm : m ≤ h.length) (h13 : gI σ 13 = nI a) (h0 : a ≠ 0) (h1 : a < 2 ^ 31) : f_M_link_163 F m (mh m h σ) = some (nI a, mh m h σ) := by
  unfold f_M_link_163
  rw [Mg13 hm, bs, h13, if_neg (show ¬ nI a = 0 from fun q => h0 ((nI_eq (b := 0) (by omega) (by decide)).mp q)), sk_174 hm h13 h0 h1]
theorem sk_152 (hm : m ≤ h.length) (h13 : gI σ 13 = nI a) (h0 : a ≠ 0) (h1 : a < 2 ^ 31) : f_M_link_152 F m (mh m h σ) = some (nI a, mh m h σ) := by
  unfold f_M_link_152
  rw [Mg13 hm, bs, h13, if_neg (show ¬ nI a = 0 from fun q => h0 ((nI_eq (b := 0) (by omega) (by decide)).mp q)), sk_163 hm h13 h0 h1]
end MLV
abbrev leI : List Nat := [4, 13, 15, 43, 74, 82, 88, 89]
abbrev leJ : List Nat := 16 :: lyJ
abbrev leA : List Nat := [3, 38, 39, 42, 59, 75, 76, 77, 78, 91, 92, 93, 94, 95]
abbrev leB : List Nat := 41 :: lyB
section MLW
variable {F m T : Nat} {h : px_H} {B : Nat → Nat} {tb : Nat → Nat → Nat} {tO tn tq : Nat → Nat} {dr : Nat → Bool} {xs : px_NL} {ll sl od : List Nat} {on : Bool} {R rn : Nat → Bool} {th : Nat → Bool}
theorem q_ln_E {σ : px_S} (hm : m ≤ h.length) (hF : 65540 < F) (hll : ll = layL T tb (sta tb dr on R)) (hsl : sl = slL T tb dr xs (sta tb dr on R)) (hth : th = thS tb ll xs od on rn sl.length) (hWP : WP T tb dr xs) (hY : LYo T tb ll) (hkp : ∀ x, x ∈ ll → oK (tb (x / 24)) (x % 24) = true) (hN : SLN T tb) (hcm : AL cmP xs) (hod : ∀ d, d ∈ od → d < xs.length) (hoS : ∀ d, d ∈ od → stN xs d = 1 ∨ stN xs d = 2 ∨ stN xs d = 3) (hst : (dfI wST xs).isSome = true) (h13 : gI σ 13 = nI 0) (h14 : gI σ 14 = nI T) (h74 : gI σ 74 = nI 0) (hR : RWd σ T tO tn tb dr xs) (hO : RO σ od) (hs : RSt σ on R) (hn : RRn σ xs on rn) (hLa : RLa σ tq tb ll) (hB : RB σ B) (hC : RC σ) (h3 : ∀ k, isB (gA σ 3 k)) (h4 : ∃ n, n ≤ 65536 ∧ gI σ 4 = nI n) (h42 : ∀ k, isB (gA σ 42 k)) (h91 : ∀ k, isB (gA σ 91 k)) : ∃ (σ' : px_S) (a : Nat), ((xo (mh m h σ) 12 m).bind fun _ => xb (f_M_findPool F m (mh m h σ)) fun _ ph3 => f_M_link_152 F m ph3) = some (nI a, mh m h σ') ∧ gI σ' 13 = nI a ∧ lnE T tO tb dr xs od on rn B (sta tb dr on R) ll sl th a ∧ (∀ k, isB (gA σ' 3 k)) ∧ (∃ n, n ≤ 65536 ∧ gI σ' 4 = nI n) ∧ (∀ k, isB (gA σ' 42 k)) ∧ (∀ k, isB (gA σ' 91 k)) ∧ (a ≠ 0 → FR leI leJ [59, 75, 76, 77, 78, 91, 92, 93, 94, 95] lyB σ σ' ∧ gI σ' 43 = gI σ 43) ∧ (a = 0 → LKD σ' od ∧ ∃ ad NA V, LKX tO tb dr xs od on rn B (sta tb dr on R) ll sl th ad NA V ∧ (∀ (P x : Nat), ll[P]? = some x → gB σ' 57 P = lN (ad x)) ∧ (∀ j, j < xs.length → gB σ' 29 j = NA j) ∧ LKZ σ' (vFe V) th) ∧ FR leI leJ leA leB σ σ' := by
  have hS : llS T tb (sta tb dr on R) ll := by rw [hll]; exact llS_lay
  have hl := hY.2.1
  subst hsl
  obtain ⟨σ2, a1, a2, a3, a4, a5⟩ := q_findPool (F := F) (h := h) (σ := σ) hm hF hl ⟨hR.1, hLa, hB⟩ h91
  obtain ⟨σ3, b1, b2, b3, b4⟩ := q_findSlots (F := F) (h := h) (σ := σ2) (xs := xs) (on := on) (R := R) hm (by omega) hN hWP ⟨RWd_FR hR a5 (by decide) (by decide) (by decide), RSt_FR hs a5 (by decide) (by decide), (a5.1 14 (by decide)).trans h14⟩ ((a5.1 74 (by decide)).trans h74)
  have f3 : FR [74, 88, 89] [] [75, 76, 77, 78, 91, 92, 93, 94, 95] [] σ σ3 := FR_trans (FR_mono a5 (by decide) (by decide) (by decide) (by decide)) (FR_mono b4 (by decide) (by decide) (by decide) (by decide))
  have hW3 : RWp σ3 T tO tn tq tb ll B := RWp_FR ⟨hR.1, hLa, hB⟩ f3 (by decide) (by decide)
  have hpo3 : RPo σ3 B (nd0 B tO tb ll) (pf0 B tO tb ll) := RPo_FR a2 b4 (by decide) (by decide)
  have hR3 := RWd_FR hR f3 (by decide) (by decide) (by decide)
  have hs3 := RSt_FR hs f3 (by decide) (by decide)
  have hn3 := RRn_FR hn f3 (by decide) (by decide)
  have hO3 := RO_FR hO f3 (by decide) (by decide)
  have hns := hN _ b3
  have hown : ∀ (i : Nat) (x : List Nat × px_NR), xs[i]? = some x → x.2.2.2.1 < 2 ^ 31 := fun i x hx => by have := (hcm i x hx).2; omega
  obtain ⟨σ4, fe0, bg0, G0, fe1, mem1, bg1, G1, fe2, mem2, bg2, G4, G5, G2, sp, G3, CM, fe3, y1, y2, y3, ⟨y4, y5, y6⟩, ⟨y7, y8, y9⟩, ⟨y10, y11, y12, y13⟩, y14, y15, y16, y17⟩ := q_layout (F := F) (h := h) (σ := σ3) (od := od) (rn := rn) (ns := (slL T tb dr xs (sta tb dr on R)).length) (th := th) hm hF hY hWP hown hW3 a4 a3 hpo3 hR3.2.1 hs3 hS ⟨hW3.2.1, hR3.2.2, hO3, hn3, b2.1⟩ hod (cmOK_of hcm) hns ((f3.1 13 (by decide)).trans h13) hth
  have F4 : FR leI leJ [59, 75, 76, 77, 78, 91, 92, 93, 94, 95] lyB σ σ4 := FR_trans (FR_mono f3 (by decide) (by decide) (by decide) (by decide)) (FR_mono y17 (by decide) (by decide) (by decide) (by decide))
  have F4a : FR [13, 15, 74, 82, 88, 89] lyJ [59, 75, 76, 77, 78, 91, 92, 93, 94, 95] lyB σ σ4 := FR_trans (FR_mono f3 (by decide) (by decide) (by decide) (by decide)) (FR_mono y17 (by decide) (by decide) (by decide) (by decide))
  have g3 : ∀ k, isB (gA σ4 3 k) := fun k => by rw [F4.2.2.1 3 (by decide)]; exact h3 k
  have g42 : ∀ k, isB (gA σ4 42 k) := fun k => by rw [F4.2.2.1 42 (by decide)]; exact h42 k
  have g91 : ∀ k, isB (gA σ4 91 k) := fun k => by rw [y17.2.2.1 91 (by decide)]; exact hpo3.2.2.2 k
  have g4 : ∃ n, n ≤ 65536 ∧ gI σ4 4 = nI n := by
    obtain ⟨n, n1, n2⟩ := h4
    exact ⟨n, n1, (F4a.1 4 (by decide)).trans n2⟩
  have e0 : ((xo (mh m h σ) 12 m).bind fun _ => xb (f_M_findPool F m (mh m h σ)) fun _ ph3 => f_M_link_152 F m ph3) = f_M_link_174 F m (mh m h σ4) := by
    rw [e_o hm, bs, a1, xb_mk]
    unfold f_M_link_152
    rw [Mg13 hm, bs, (a5.1 13 (by decide)).trans h13, if_pos (show nI 0 = 0 from rfl), e_o hm, bs, b1, xb_mk]
    unfold f_M_link_163
    rw [Mg13 hm, bs, (f3.1 13 (by decide)).trans h13, if_pos (show nI 0 = 0 from rfl), e_o hm, bs, y2, xb_mk]
  rw [e0]
  clear e0 y2 b1 a1
  cases eA : lyA th (G0.1 - bg0) (G1.1 + psz B (pf0 B tO tb ll) - bg1) (CM.1 - bg2) fe3 with
  | true =>
    rw [eA, if_pos rfl] at y3
    refine ⟨σ4, 3, sk_174 hm y3 (by decide) (by decide), y3, ⟨fe0, bg0, G0, fe1, mem1, bg1, G1, fe2, mem2, bg2, G4, G5, G2, sp, G3, CM, fe3, y1, by rw [eA, if_pos rfl]⟩, g3, g4, g42, g91, fun _ => ⟨F4, F4a.1 43 (by decide)⟩, fun q => absurd q (by decide), FR_mono F4 (by decide) (by decide) (by decide) (by decide)⟩
  | false =>
    rw [eA, if_neg (by decide)] at y3
    have hfe : fe3 ≤ 65536 := by
      unfold lyA at eA
      rw [Bool.or_eq_false_iff, Bool.or_eq_false_iff, Bool.or_eq_false_iff] at eA
      have := of_decide_eq_false eA.2.2
      omega
    have hRo := LY_room hY hth rfl y1 hfe y16
    have had : ∀ x, x ∈ ll → gB σ4 58 x = lN (G3.2.1 x) := fun x hx => by
      obtain ⟨P, hP⟩ := List.mem_iff_getElem?.mp hx
      exact (y14 P x hP trivial).2
    obtain ⟨NA, eNA⟩ : ∃ NA, NA = naF (ownV B (pf0 B tO tb ll) tO tb dr (sta tb dr on R) G1.1 G3.2.1) (ownK G0.1 bg2 (sp + 8 * (slL T tb dr xs (sta tb dr on R)).length - bg2) (CM.2.2.getD CM.1) (CM.1 - bg2)) CM.2.1 xs := ⟨_, rfl⟩
    have hNA : ∀ j, j < xs.length → gB σ4 29 j = NA j := fun j hj => by
      rw [eNA, y15 j _ (List.getElem?_eq_getElem hj)]
      unfold naF
      rw [getD_at (List.getElem?_eq_getElem hj)]
    have hsl4 : RSl tb xs σ4 (slL T tb dr xs (sta tb dr on R)) := ⟨(y17.1 74 (by decide)).trans b2.1, fun p z hz => by
      unfold RSr
      rw [y17.2.2.1 78 (by decide), y17.2.2.1 75 (by decide), y17.2.2.1 76 (by decide), y17.2.2.1 77 (by decide)]
      exact b2.2 p z hz⟩
    have hR4 := RWd_FR hR F4a (by decide) (by decide) (by decide)
    have hs4 := RSt_FR hs F4a (by decide) (by decide)
    have hFn : RFn σ4 T tO tn tq tb dr xs on R ll B (slL T tb dr xs (sta tb dr on R)) NA G3.2.1 sp (tpN bg2 (ll.foldl (ft1 tb G3.2.1) (false, 0, 1, 0))) G1.1 := ⟨⟨RWp_FR hW3 y17 (by decide) (by decide), RPo_FR hpo3 y17 (by decide) (by decide)⟩, ⟨hR4.2.1, hs4, hR4.2.2⟩, hsl4, hNA, had, y11, y13, y12, (F4a.1 14 (by decide)).trans h14⟩
    have hFN : FNo T tO tb dr xs (sta tb dr on R) ll B (slL T tb dr xs (sta tb dr on R)) := ⟨hWP, hl, a4, a3, hS, hN, b3⟩
    obtain ⟨σ5, c1, c2⟩ := q_sites (F := F) (h := h) (SV := svF B tO tb dr xs (sta tb dr on R) ll (slL T tb dr xs (sta tb dr on R)) NA G3.2.1 sp (tpN bg2 (ll.foldl (ft1 tb G3.2.1) (false, 0, 1, 0))) G1.1) hm hF hFn hFN y3 rfl
    have e1 : f_M_link_174 F m (mh m h σ4) = f_M_link_186 F m (mh m h σ5) := by
      unfold f_M_link_174
      rw [Mg13 hm, bs, y3, if_pos (show nI 0 = 0 from rfl), e_o hm, bs, c1, xb_mk]
    rw [e1]
    have hL : ∀ b, ex1 (ovT (svF B tO tb dr xs (sta tb dr on R) ll (slL T tb dr xs (sta tb dr on R)) NA G3.2.1 sp (tpN bg2 (ll.foldl (ft1 tb G3.2.1) (false, 0, 1, 0))) G1.1) tb (sta tb dr on R)) 0 T = b → lnE T tO tb dr xs od on rn B (sta tb dr on R) ll (slL T tb dr xs (sta tb dr on R)) th (if b = true then 4 else 0) := fun b hb => ⟨fe0, bg0, G0, fe1, mem1, bg1, G1, fe2, mem2, bg2, G4, G5, G2, sp, G3, CM, fe3, y1, by rw [eA, if_neg (show ¬ (false = true) by decide), ← eNA, hb]⟩
    cases eO : ex1 (ovT (svF B tO tb dr xs (sta tb dr on R) ll (slL T tb dr xs (sta tb dr on R)) NA G3.2.1 sp (tpN bg2 (ll.foldl (ft1 tb G3.2.1) (false, 0, 1, 0))) G1.1) tb (sta tb dr on R)) 0 T with
    | true =>
      obtain ⟨d1, d2⟩ := c2.2 eO
      have F5 : FR leI leJ [59, 75, 76, 77, 78, 91, 92, 93, 94, 95] lyB σ σ5 := FR_trans F4 (FR_mono d2 (by decide) (by decide) (by decide) (by decide))
      refine ⟨σ5, 4, sk_186 hm d1 (by decide) (by decide), d1, hL true eO, fun k => by rw [d2.2.2.1 3 (by decide)]; exact g3 k, ?_, fun k => by rw [d2.2.2.1 42 (by decide)]; exact g42 k, fun k => by rw [d2.2.2.1 91 (by decide)]; exact g91 k, fun _ => ⟨F5, (d2.1 43 (by decide)).trans (F4a.1 43 (by decide))⟩, fun q => absurd q (by decide), FR_mono F5 (by decide) (by decide) (by decide) (by decide)⟩
      obtain ⟨n, n1, n2⟩ := g4
      exact ⟨n, n1, (d2.1 4 (by decide)).trans n2⟩
    | false =>
      rw [c2.1 eO]
      have hsp : RSp σ4 (seg3 (upN fe0 16) (upN fe1 16) (upN fe2 16)) (seg3 bg0 bg1 bg2) := by
        intro s hs
        have : s = 0 ∨ s = 1 ∨ s = 2 := by omega
        rcases this with e | e | e
        · rw [e]; exact ⟨y7.1, y7.2.1⟩
        · rw [e]; exact ⟨y8.1, y8.2.1⟩
        · rw [e]; exact ⟨y9.1, y9.2.1⟩
      obtain ⟨σ6, w1, w2, w3, w4⟩ := q_write (F := F) (h := h) (σ := σ4) (fe := fe3) hm hF hFN hRo hkp hst ⟨⟨hFn, hsp, y3, g3⟩, y5, ⟨sgN th 3, sgN_le 3, y4⟩, ⟨_, y6⟩, y14, RC_FR hC F4a (by decide) (by decide)⟩ hfe y10
      have F6 : FR [4, 13, 15, 74, 82, 88, 89] lyJ [3, 59, 75, 76, 77, 78, 91, 92, 93, 94, 95] lyB σ σ6 := FR_trans (FR_mono F4a (by decide) (by decide) (by decide) (by decide)) (FR_mono w4 (by decide) (by decide) (by decide) (by decide))
      obtain ⟨σ7, k1, k2, k3, k4, k5⟩ := q_keepLink (F := F) (h := h) (σ := σ6) (fe := fe3) (rn := rn) hm hF hWP hod hoS (RWd_FR hR F6 (by decide) (by decide) (by decide)) (RO_FR hO F6 (by decide) (by decide)) (RRn_FR hn F6 (by decide) (by decide)) (RSt_FR hs F6 (by decide) (by decide)) hfe w2 (fun k => by rw [w4.2.2.1 42 (by decide)]; exact g42 k)
      have z6 : gI σ6 13 = nI 0 := (w4.1 13 (by decide)).trans y3
      have z7 : gI σ7 13 = nI 0 := (k5.1 13 (by decide)).trans z6
      refine ⟨σ7, 0, ?_, z7, hL false eO, fun k => by rw [k5.2.2.1 3 (by decide)]; exact w3 k, ⟨fe3, hfe, (k5.1 4 (by decide)).trans w2⟩, k3, fun k => by rw [k5.2.2.1 91 (by decide), w4.2.2.1 91 (by decide)]; exact g91 k, fun q => absurd rfl q, fun _ => ⟨⟨⟨fe3, hfe, k2⟩, k4, th, ((k5.1 15 (by decide)).trans (w4.1 15 (by decide))).trans y4, fun j hj => by rw [k5.2.2.1 59 (by decide), w4.2.2.1 59 (by decide)]; exact y5 j hj⟩, G3.2.1, NA, (fe0, bg0, G0, fe1, mem1, bg1, G1, fe2, mem2, bg2, G4, G5, G2, sp, G3, CM, fe3), ⟨fe0, bg0, G0, fe1, mem1, bg1, G1, fe2, mem2, bg2, G4, G5, G2, sp, G3, CM, fe3, y1, rfl, eNA, rfl⟩, fun P x hP => by rw [k5.2.2.2 57 (by decide), w4.2.2.2 57 (by decide)]; exact (y14 P x hP trivial).1, fun j hj => by rw [k5.2.2.2 29 (by decide), w4.2.2.2 29 (by decide)]; exact hNA j hj, hfe, k2, ((k5.1 15 (by decide)).trans (w4.1 15 (by decide))).trans y4, fun j hj => by rw [k5.2.2.1 59 (by decide), w4.2.2.1 59 (by decide)]; exact y5 j hj⟩, FR_trans (FR_mono F6 (by decide) (by decide) (by decide) (by decide)) (FR_mono k5 (by decide) (by decide) (by decide) (by decide))⟩
      unfold f_M_link_186
      rw [Mg13 hm, bs, y3, if_pos (show nI 0 = 0 from rfl), e_o hm, bs, w1, xb_mk]
      unfold f_M_link_197
      rw [Mg13 hm, bs, z6, if_pos (show nI 0 = 0 from rfl), e_o hm, bs, k1, xb_mk]
      unfold f_M_link_208
      rw [Mg13 hm, bs, z7]
end MLW
