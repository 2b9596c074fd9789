/-! link of the reference -/
/-- the names when all is taken -/
def xsN (s : px_TK) : px_NL := if s.1.1 = 0 then ownL s.1.2.1 else s.1.2.1
/-- the answer of a link -/
def lnR (fs : px_FS) (gs : List (List Nat × Int64)) (ws : List (List Nat)) (rc : Bool) (B : Nat → Nat) (s : px_TK) (a : Nat) : Prop := s = taL fs (xs0 gs ws) (od0 gs) ∧ (anN fs ws s (xsN s) ≠ 0 → a = anN fs ws s (xsN s)) ∧ (anN fs ws s (xsN s) = 0 → ∃ R rn, RRo s.2.2.1.length (tB fs s.2.2.1) s.2.1.1 (xsN s) rc R rn ∧ lnE s.2.2.1.length (tOf fs s.2.2.1) (tB fs s.2.2.1) s.2.1.1 (xsN s) s.1.2.2.1 rc rn B (sta (tB fs s.2.2.1) s.2.1.1 rc R) (layL s.2.2.1.length (tB fs s.2.2.1) (sta (tB fs s.2.2.1) s.2.1.1 rc R)) (slL s.2.2.1.length (tB fs s.2.2.1) s.2.1.1 (xsN s) (sta (tB fs s.2.2.1) s.2.1.1 rc R)) (thS (tB fs s.2.2.1) (layL s.2.2.1.length (tB fs s.2.2.1) (sta (tB fs s.2.2.1) s.2.1.1 rc R)) (xsN s) s.1.2.2.1 rc rn (slL s.2.2.1.length (tB fs s.2.2.1) s.2.1.1 (xsN s) (sta (tB fs s.2.2.1) s.2.1.1 rc R)).length) a)
/-- the segments that are there, the slots, the sections that stay, the layout -/
abbrev px_EE : Type := (Nat → Bool) × List Nat × (Nat → Nat → Bool) × px_VV
abbrev px_NA : Type := (Nat → Int64) × px_EE
/-- order and addresses of a link that was done -/
def lnX (fs : px_FS) (s : px_TK) (rc : Bool) (B : Nat → Nat) (ll : List Nat) (ad : Nat → Nat) (NA : px_NA) : Prop := ∃ R rn, RRo s.2.2.1.length (tB fs s.2.2.1) s.2.1.1 (xsN s) rc R rn ∧ ll = layL s.2.2.1.length (tB fs s.2.2.1) (sta (tB fs s.2.2.1) s.2.1.1 rc R) ∧ LKX (tOf fs s.2.2.1) (tB fs s.2.2.1) s.2.1.1 (xsN s) s.1.2.2.1 rc rn B (sta (tB fs s.2.2.1) s.2.1.1 rc R) ll (slL s.2.2.1.length (tB fs s.2.2.1) s.2.1.1 (xsN s) (sta (tB fs s.2.2.1) s.2.1.1 rc R)) (thS (tB fs s.2.2.1) ll (xsN s) s.1.2.2.1 rc rn (slL s.2.2.1.length (tB fs s.2.2.1) s.2.1.1 (xsN s) (sta (tB fs s.2.2.1) s.2.1.1 rc R)).length) ad NA.1 NA.2.2.2.2 ∧ NA.2.1 = thS (tB fs s.2.2.1) ll (xsN s) s.1.2.2.1 rc rn (slL s.2.2.1.length (tB fs s.2.2.1) s.2.1.1 (xsN s) (sta (tB fs s.2.2.1) s.2.1.1 rc R)).length ∧ NA.2.2.1 = slL s.2.2.1.length (tB fs s.2.2.1) s.2.1.1 (xsN s) (sta (tB fs s.2.2.1) s.2.1.1 rc R) ∧ NA.2.2.2.1 = sta (tB fs s.2.2.1) s.2.1.1 rc R
theorem lnX_mk {fs : px_FS} {s : px_TK} {rc : Bool} {B : Nat → Nat} {ll : List Nat} {ad : Nat → Nat} {NA : Nat → Int64} {th : Nat → Bool} {sl : List Nat} {sy : Nat → Nat → Bool} {V : px_VV} {R rn : Nat → Bool} (h1 : RRo s.2.2.1.length (tB fs s.2.2.1) s.2.1.1 (xsN s) rc R rn) (h2 : ll = layL s.2.2.1.length (tB fs s.2.2.1) (sta (tB fs s.2.2.1) s.2.1.1 rc R)) (h3 : LKX (tOf fs s.2.2.1) (tB fs s.2.2.1) s.2.1.1 (xsN s) s.1.2.2.1 rc rn B (sta (tB fs s.2.2.1) s.2.1.1 rc R) ll (slL s.2.2.1.length (tB fs s.2.2.1) s.2.1.1 (xsN s) (sta (tB fs s.2.2.1) s.2.1.1 rc R)) (thS (tB fs s.2.2.1) ll (xsN s) s.1.2.2.1 rc rn (slL s.2.2.1.length (tB fs s.2.2.1) s.2.1.1 (xsN s) (sta (tB fs s.2.2.1) s.2.1.1 rc R)).length) ad NA V) (h4 : th = thS (tB fs s.2.2.1) ll (xsN s) s.1.2.2.1 rc rn (slL s.2.2.1.length (tB fs s.2.2.1) s.2.1.1 (xsN s) (sta (tB fs s.2.2.1) s.2.1.1 rc R)).length) (h5 : sl = slL s.2.2.1.length (tB fs s.2.2.1) s.2.1.1 (xsN s) (sta (tB fs s.2.2.1) s.2.1.1 rc R)) (h6 : sy = sta (tB fs s.2.2.1) s.2.1.1 rc R) : lnX fs s rc B ll ad (NA, th, sl, sy, V) := ⟨R, rn, h1, h2, h3, h4, h5, h6⟩
/-- the reference has them so -/
def LKY (fs : px_FS) (s : px_TK) (rc : Bool) (B : Nat → Nat) (σ : px_S) : Prop := ∃ ll ad NA, lnX fs s rc B ll ad NA ∧ RLa σ (tQf s.2.2.1) (tB fs s.2.2.1) ll ∧ (∀ (P x : Nat), ll[P]? = some x → gB σ 57 P = lN (ad x)) ∧ (∀ j, j < (xsN s).length → gB σ 29 j = NA.1 j) ∧ LKZ σ (vFe NA.2.2.2.2) NA.2.1
theorem LKY_mk {fs : px_FS} {s : px_TK} {rc : Bool} {B : Nat → Nat} {σ : px_S} {ll : List Nat} {ad : Nat → Nat} {NA : Nat → Int64} {th : Nat → Bool} {sl : List Nat} {sy : Nat → Nat → Bool} {V : px_VV} (h : lnX fs s rc B ll ad (NA, th, sl, sy, V)) (h1 : RLa σ (tQf s.2.2.1) (tB fs s.2.2.1) ll) (h2 : ∀ (P x : Nat), ll[P]? = some x → gB σ 57 P = lN (ad x)) (h3 : ∀ j, j < (xsN s).length → gB σ 29 j = NA j) (h4 : LKZ σ (vFe V) th) : LKY fs s rc B σ := ⟨ll, ad, (NA, th, sl, sy, V), h, h1, h2, h3, h4⟩
/-- what holds of the reference between calls, besides files and names told -/
def LNV (σ : px_S) : Prop := (∀ k, isB (gA σ 3 k)) ∧ (∃ n, n ≤ 65536 ∧ gI σ 4 = nI n) ∧ (∀ k, isB (gA σ 42 k)) ∧ (∀ k, isB (gA σ 91 k)) ∧ (∃ ch, gI σ 98 = bI ch) ∧ RC σ
/-- what a link leaves -/
def LNP (fs : px_FS) (s : px_TK) (σ : px_S) : Prop := LM fs s (xsN s) σ ∧ WK fs s ∧ WP s.2.2.1.length (tB fs s.2.2.1) s.2.1.1 (xsN s) ∧ AL cmP (xsN s) ∧ ((∀ d, d ∈ s.1.2.2.1 → d < (xsN s).length) ∧ ∀ d, d ∈ s.1.2.2.1 → stN (xsN s) d = 1 ∨ stN (xsN s) d = 2 ∨ stN (xsN s) d = 3) ∧ ∃ (on : Bool) (R rn : Nat → Bool), RSt σ on R ∧ RRn σ (xsN s) on rn ∧ RLa σ (tQf s.2.2.1) (tB fs s.2.2.1) (layL s.2.2.1.length (tB fs s.2.2.1) (sta (tB fs s.2.2.1) s.2.1.1 on R)) ∧ LYo s.2.2.1.length (tB fs s.2.2.1) (layL s.2.2.1.length (tB fs s.2.2.1) (sta (tB fs s.2.2.1) s.2.1.1 on R))
abbrev lnI : List Nat := [0, 4, 13, 14, 15, 20, 43, 48, 50, 68, 69, 70, 74, 82, 88, 89, 98]
abbrev lnJ : List Nat := [16, 64, 79, 80, 81, 83, 84, 85, 86, 87, 90]
abbrev lnA : List Nat := [3, 17, 18, 19, 21, 22, 23, 24, 25, 26, 27, 28, 38, 39, 40, 42, 49, 51, 52, 53, 54, 55, 56, 59, 65, 66, 67, 71, 72, 73, 75, 76, 77, 78, 91, 92, 93, 94, 95]
abbrev lnB : List Nat := [29, 30, 41, 57, 58, 60, 61, 62, 63]
theorem xsN_fst {s : px_TK} : (xsN s).map Prod.fst = s.1.2.1.map Prod.fst := by
  unfold xsN
  split
  · exact ownL_fst
  · rfl
theorem anN_st {fs : px_FS} {ws : List (List Nat)} {s : px_TK} {xs : px_NL} (c : anN fs ws s xs = 0) : (dfI wST xs).isSome = true := by
  unfold anN at c
  by_cases c1 : s.1.1 = 0
  · rw [if_pos c1] at c
    by_cases c2 : lkA fs ws s xs = true
    · rw [if_pos c2] at c; cases c
    · have c2 := Bool.eq_false_iff.mpr c2
      unfold lkA at c2
      rw [Bool.or_eq_false_iff, Bool.or_eq_false_iff] at c2
      have := c2.2.2
      cases e : dfI wST xs with
      | none => rw [e] at this; cases this
      | some i => rfl
  · rw [if_neg c1] at c; exact absurd c c1
section MLX
variable {F m : Nat} {h : px_H} {fs : px_FS} {gs : List (List Nat × Int64)} {ws : List (List Nat)} {B : Nat → Nat} {rc : Bool}
theorem q_link {σ : px_S} (hm : m ≤ h.length) (hF : 65540 < F) (hr : RF σ fs) (hg : RG σ gs) (hw : RW σ ws) (hv : LNV σ) (hB : RB σ B) (hsum : (fs.map Prod.fst).sum ≤ 4096) : ∃ (σ' : px_S) (a : Nat) (s : px_TK), f_M_link F m (bI rc) (mh m h σ) = some (nI a, mh m h σ') ∧ lnR fs gs ws rc B s a ∧ gI σ' 13 = nI a ∧ LNP fs s σ' ∧ LNV σ' ∧ RF σ' fs ∧ RG σ' gs ∧ RW σ' ws ∧ FR lnI lnJ lnA lnB σ σ' ∧ (a = 0 → LKD σ' s.1.2.2.1 ∧ LKY fs s rc B σ') := by
  obtain ⟨v3, v4, v42, v91, v98, vC⟩ := hv
  have hfo := RF_FSo hr
  have hgl : gs.length ≤ 16 := by have := hg.2.1.1; rw [List.length_map] at this; exact this
  have hwl : ws.length ≤ 16 := hw.2.1
  obtain ⟨hS, hSw⟩ := ST0_xs hgl hwl
  have hWK := WK_0 hfo hS
  have hcm0 := cmP_0 hfo hS
  have hod0 := odS_0 hfo hS
  have htx : ∀ w, w ∈ ws → w ∈ (taL fs (xs0 gs ws) (od0 gs)).1.2.1.map Prod.fst := fun w hq => txs_0 hfo (hSw w hq)
  obtain ⟨s, es⟩ : ∃ s, s = taL fs (xs0 gs ws) (od0 gs) := ⟨_, rfl⟩
  rw [← es] at hWK hcm0 hod0 htx
  have hWP : WP s.2.2.1.length (tB fs s.2.2.1) s.2.1.1 (xsN s) := by
    unfold xsN
    split
    · exact WP_own (WP_of hWK)
    · exact WP_of hWK
  have hcm : AL cmP (xsN s) := by
    unfold xsN
    split
    · exact AL_own (P := cmP) cmP_own hcm0
    · exact hcm0
  have hlen : (xsN s).length = s.1.2.1.length := by
    have := congrArg List.length (xsN_fst (s := s))
    rw [List.length_map, List.length_map] at this
    exact this
  have hod : ∀ d, d ∈ s.1.2.2.1 → d < (xsN s).length := fun d hd => by rw [hlen]; exact hWK.2.2.2.2 d hd
  have hoS : ∀ d, d ∈ s.1.2.2.1 → stN (xsN s) d = 1 ∨ stN (xsN s) d = 2 ∨ stN (xsN s) d = 3 := fun d hd => by
    have h1 := hod0 d hd
    unfold xsN
    split
    · rw [stN_own (by omega)]; exact h1
    · exact h1
  have hSL := SLN_of hfo hWK.1 hsum
  -- the start
  obtain ⟨σ1, a1, a2, a3, a4⟩ := q_ln_0 (F := F) (h := h) (a := bI rc) (σ := σ) hm (by omega)
  obtain ⟨σ2, b1, b2, b3, b4, b5, b6, b7⟩ := q_ln_92 (F := F) (h := h) (a := bI rc) (σ := σ1) (s := s) hm (by omega) a2 a3 (RF_FR hr a4 (by decide) (by decide)) (RG_FR hg a4 (by decide) (by decide) (by decide)) (RW_FR hw a4 (by decide) (by decide)) (RC_FR vC a4 (by decide) (by decide)) (fun k => by rw [a4.2.2.1 3 (by decide)]; exact v3 k) (by
    obtain ⟨n, n1, n2⟩ := v4
    exact ⟨n, n1, (a4.1 4 (by decide)).trans n2⟩) es
  have F2 : FR lnI lnJ lnA lnB σ σ2 := FR_trans (FR_mono a4 (by decide) (by decide) (by decide) (by decide)) (FR_mono b7 (by decide) (by decide) (by decide) (by decide))
  have b3 : LM fs s (xsN s) σ2 := b3
  obtain ⟨σ3, c1, c2, c3, c4, c5, c6⟩ := q_ln_111 (F := F) (h := h) (a := bI rc) (σ := σ2) (ws := ws) hm (by omega) b2 b3 hWK (fun e => by unfold xsN; rw [if_pos e]) (RW_FR hw F2 (by decide) (by decide)) htx (RC_FR vC F2 (by decide) (by decide)) b5 b6
  have F3 : FR lnI lnJ lnA lnB σ σ3 := FR_trans F2 (FR_mono c6 (by decide) (by decide) (by decide) (by decide))
  obtain ⟨on, hon⟩ : ∃ on, on = (decide (anN fs ws s (xsN s) = 0) && rc) := ⟨_, rfl⟩
  obtain ⟨σ4, R, rn, d1, d2, d3, d4, d5, d6⟩ := q_ln_122 (F := F) (h := h) (σ := σ3) (ws := ws) (rc := rc) hm (by omega) c2 c3 hWK hWP (RC_FR vC F3 (by decide) (by decide)) (by
    obtain ⟨ch, hc⟩ := v98
    exact ⟨ch, by rw [c6.1 98 (by decide), b7.1 98 (by decide), a4.1 98 (by decide)]; exact hc⟩) (by rw [c6.1 68 (by decide), b7.1 68 (by decide)]; exact a2.2.2.2.2.2.2.2.1) hon
  have F4 : FR lnI lnJ lnA lnB σ σ4 := FR_trans F3 (FR_mono d6 (by decide) (by decide) (by decide) (by decide))
  have hL4 := LM_FR c3 d6 (by decide) (by decide) (by decide)
  have h134 : gI σ4 13 = nI (anN fs ws s (xsN s)) := (d6.1 13 (by decide)).trans c2
  obtain ⟨l1, l2, l3, l4, l5, l6, l7, l8, l9⟩ := hL4
  have hOB := OB_of l2 hWK.1 l7
  obtain ⟨σ5, e1, e2, e3, e4⟩ := q_lay (F := F) (h := h) (σ := σ4) (tq := tQf s.2.2.1) (on := on) (R := R) hm (by omega) hWP.1 ⟨hOB, l5, d2, RQ_of l2 hWK.1 l7, l1⟩
  have F5 : FR lnI lnJ lnA lnB σ σ5 := FR_trans F4 (FR_mono e4 (by decide) (by decide) (by decide) (by decide))
  obtain ⟨hLY, hkp⟩ := LYo_lay (tn := tNf fs s.2.2.1) hWP.1 (fun t ht => (hOB t ht).2.2.2.1) e3
  have hL5 := LM_FR ⟨l1, l2, l3, l4, l5, l6, l7, l8, l9⟩ e4 (by decide) (by decide) (by decide)
  have hs5 := RSt_FR d2 e4 (by decide) (by decide)
  have hn5 := RRn_FR d3 e4 (by decide) (by decide)
  have h135 : gI σ5 13 = nI (anN fs ws s (xsN s)) := (e4.1 13 (by decide)).trans h134
  have hs2 := hWK.1.1
  have ha : anN fs ws s (xsN s) ≤ 2 := by unfold anN; repeat (first | omega | split)
  have eT : f_M_link F m (bI rc) (mh m h σ) = f_M_link_137 F m (mh m h σ4) := by rw [a1, b1, c1, d1]
  rw [eT]
  unfold f_M_link_137
  rw [e_o hm, bs, e1, xb_mk, Mg13 hm, bs, h135]
  by_cases c : anN fs ws s (xsN s) = 0
  · have eon : on = rc := by rw [hon, decide_eq_true c, Bool.true_and]
    subst eon
    rw [if_pos (by rw [c]; rfl)]
    obtain ⟨σ6, a, g1, g2, g3, g4, g5, g6, g7, g8, g9, g10⟩ := q_ln_E (F := F) (h := h) (σ := σ5) (tO := tOf fs s.2.2.1) (tn := tNf fs s.2.2.1) (tq := tQf s.2.2.1) (B := B) (od := s.1.2.2.1) (rn := rn) (R := R) hm hF rfl rfl rfl hWP hLY hkp hSL hcm hod hoS (anN_st c) (by rw [h135, c]) hL5.1 (by rw [e4.1 74 (by decide), d6.1 74 (by decide), c6.1 74 (by decide), b7.1 74 (by decide)]; exact a2.2.2.2.2.2.2.1) ⟨OB_of hL5.2.1 hWK.1 hL5.2.2.2.2.2.2.1, hL5.2.2.2.2.1, hL5.2.2.1⟩ hL5.2.2.2.1 hs5 hn5 e2 (RB_FR hB F5 (by decide)) (RC_FR vC F5 (by decide) (by decide)) (fun k => by rw [e4.2.2.1 3 (by decide), d6.2.2.1 3 (by decide)]; exact c4 k) (by
      obtain ⟨n, n1, n2⟩ := c5
      exact ⟨n, n1, by rw [e4.1 4 (by decide), d6.1 4 (by decide)]; exact n2⟩) (fun k => by rw [e4.2.2.1 42 (by decide), d6.2.2.1 42 (by decide), c6.2.2.1 42 (by decide), b7.2.2.1 42 (by decide), a4.2.2.1 42 (by decide)]; exact v42 k) (fun k => by rw [e4.2.2.1 91 (by decide), d6.2.2.1 91 (by decide), c6.2.2.1 91 (by decide), b7.2.2.1 91 (by decide), a4.2.2.1 91 (by decide)]; exact v91 k)
    have F6 : FR lnI lnJ lnA lnB σ σ6 := FR_trans F5 (FR_mono g10 (by decide) (by decide) (by decide) (by decide))
    have hL6 := LM_FR hL5 g10 (by decide) (by decide) (by decide)
    have e26 : RLa σ6 (tQf s.2.2.1) (tB fs s.2.2.1) (layL s.2.2.1.length (tB fs s.2.2.1) (sta (tB fs s.2.2.1) s.2.1.1 on R)) := RLa_FR e2 g10 (by decide) (by decide)
    refine ⟨σ6, a, s, g1, ⟨es, fun q => absurd c q, fun _ => ⟨R, rn, d4, g3⟩⟩, g2, ⟨hL6, hWK, hWP, hcm, ⟨hod, hoS⟩, on, R, rn, RSt_FR hs5 g10 (by decide) (by decide), RRn_FR hn5 g10 (by decide) (by decide), e26, hLY⟩, ⟨g4, g5, g6, g7, ?_, RC_FR vC F6 (by decide) (by decide)⟩, hL6.2.1, RG_FR hg F6 (by decide) (by decide) (by decide), RW_FR hw F6 (by decide) (by decide), F6, fun q => ⟨(g9 q).1, ?_⟩⟩
    · obtain ⟨ch, hc⟩ := d5
      exact ⟨ch, by rw [g10.1 98 (by decide), e4.1 98 (by decide)]; exact hc⟩
    · obtain ⟨_, ad, NA, V, x1, x2, x3, x4⟩ := g9 q
      exact LKY_mk (lnX_mk d4 rfl x1 rfl rfl rfl) e26 x2 x3 x4
  · rw [if_neg (show ¬ nI (anN fs ws s (xsN s)) = 0 from fun q => c ((nI_eq (b := 0) (by omega) (by decide)).mp q)), sk_152 hm h135 c (by omega)]
    refine ⟨σ5, anN fs ws s (xsN s), s, rfl, ⟨es, fun _ => rfl, fun q => absurd q c⟩, h135, ⟨hL5, hWK, hWP, hcm, ⟨hod, hoS⟩, on, R, rn, hs5, hn5, e2, hLY⟩, ⟨?_, ?_, ?_, ?_, ?_, RC_FR vC F5 (by decide) (by decide)⟩, hL5.2.1, RG_FR hg F5 (by decide) (by decide) (by decide), RW_FR hw F5 (by decide) (by decide), F5, fun q => absurd q c⟩
    · intro k; rw [e4.2.2.1 3 (by decide), d6.2.2.1 3 (by decide)]; exact c4 k
    · obtain ⟨n, n1, n2⟩ := c5
      exact ⟨n, n1, by rw [e4.1 4 (by decide), d6.1 4 (by decide)]; exact n2⟩
    · intro k; rw [e4.2.2.1 42 (by decide), d6.2.2.1 42 (by decide), c6.2.2.1 42 (by decide), b7.2.2.1 42 (by decide), a4.2.2.1 42 (by decide)]; exact v42 k
    · intro k; rw [e4.2.2.1 91 (by decide), d6.2.2.1 91 (by decide), c6.2.2.1 91 (by decide), b7.2.2.1 91 (by decide), a4.2.2.1 91 (by decide)]; exact v91 k
    · obtain ⟨ch, hc⟩ := d5
      exact ⟨ch, by rw [e4.1 98 (by decide)]; exact hc⟩
end MLX
