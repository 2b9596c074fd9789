/-! reachFrom of the class -/
def cJ (tb : Nat → Nat → Nat) (dr : Nat → Bool) (xs : px_NL) (t i j : Nat) (u : px_CQ) : px_CQ := if sH (tb t) i j = 0 then u else cs1 (secY tb dr xs t (sY (tb t) i j)) (cn1 (comY tb xs t (sY (tb t) i j)) u)
def cI (tb : Nat → Nat → Nat) (dr : Nat → Bool) (xs : px_NL) (t w i : Nat) (u : px_CQ) : px_CQ := if isS (tb t) i = true ∧ oI (tb t) i = w then itr (cJ tb dr xs t i) 0 (sN (tb t) i) u else u
def cP (tb : Nat → Nat → Nat) (dr : Nat → Bool) (xs : px_NL) (x : Nat) (u : px_CQ) : px_CQ := itr (cI tb dr xs (x / 24) (x % 24)) 0 (oS (tb (x / 24))) u
section CRF
variable {F : Nat} {c : px_CT} {sk : Nat → Nat × Nat × Nat} {L : Nat} {τ : px_TT} {own : Nat → Nat × Nat} {fs : px_FS} {s : px_TK} {xs : px_NL} {ST rn : Nat → Bool} {t i j : Nat} {q g base n : Nat} {S : Nat → Int32} {b : Nat → Nat}
theorem nI_m1 {k : Nat} (h : k < 2 ^ 31) : ¬ nI k = Int32.ofInt (-1) := fun e => by
  have h1 := nI_pos' h
  rw [e] at h1
  exact absurd h1 (by decide)
theorem isS_1 (he : eObj b n = 0) (hs : isS b i = true) : 1 ≤ i := by
  rcases Nat.eq_zero_or_pos i with e | e
  · have := (of_decide_eq_true hs).1
    rw [e, (eObj_g he).1] at this
    cases this
  · exact e
theorem s_place (he : eObj b n = 0) (hi : i < oS b) (hs : isS b i = true) (hj : j < sN b i) : sP b i j + 24 ≤ n ∧ sY b i j < oM b := by
  have h2 := eSit_0 he (isS_1 he hs) hi hs
  have h3 := h2.2.2.2.1
  have h4 := h2.2.2.2.2.1
  refine ⟨?_, (sOK_0w (h2.2.2.2.2.2 j hj)).2.1⟩
  unfold sP
  unfold sN at hj
  omega
/-- the class's reading of a site -/
theorem k_site (hD : cD sk L τ q g base n S) (hF : 8 < F) (hb : cb S base n = b) (hp : sP b i j + 24 ≤ n) : f_ObjectFile_num F c q (nI (sP b i j)) (nI 8) (cH sk L τ) = some (lN (le b (sP b i j) 8), cH sk L τ) ∧ f_ObjectFile_num F c q (nI (sP b i j + 8)) (nI 4) (cH sk L τ) = some (lN (sH b i j), cH sk L τ) ∧ f_ObjectFile_num F c q (nI (sP b i j + 12)) (nI 4) (cH sk L τ) = some (lN (sY b i j), cH sk L τ) ∧ f_ObjectFile_num F c q (nI (sP b i j + 16)) (nI 8) (cH sk L τ) = some (lN (le b (sP b i j + 16) 8), cH sk L τ) := by
  have hO := hD.1.1.1.1
  have hn : base + n ≤ 65536 := hO.2.2.2.2.2.2.2.2.1
  obtain ⟨P, hP⟩ : ∃ P, P = sP b i j := ⟨_, rfl⟩
  unfold sH sY
  rw [← hP] at hp ⊢
  refine ⟨?_, ?_, ?_, ?_⟩
  · rw [k_num hO hF (by decide) (by omega), nm_in (by omega), hb]
  · rw [k_num hO hF (by decide) (by omega), nm_in (by omega), hb]
  · rw [k_num hO hF (by decide) (by omega), nm_in (by omega), hb]
  · rw [k_num hO hF (by decide) (by omega), nm_in (by omega), hb]
theorem k_sitesOf (hD : cD sk L τ q g base n S) (hF : 8 < F) (hb : cb S base n = b) (hi : i < oS b) (hs : isS b i = true) : f_ObjectFile_sitesOf F c q (nI i) (cH sk L τ) = some (nI (sN b i), cH sk L τ) ∧ f_ObjectFile_placeOf F c q (nI i) (cH sk L τ) = some (lN (oP b i), cH sk L τ) ∧ f_ObjectFile_targetOf F c q (nI i) (cH sk L τ) = some (nI (oI b i), cH sk L τ) := by
  have he : eObj b n = 0 := by rw [← hb]; exact hD.2.2
  have hz := (eSit_0 he (isS_1 he hs) hi hs).2.2.2.1
  have hn : base + n ≤ 65536 := hD.1.1.1.1.2.2.2.2.2.2.2.2.1
  have hi' : i < oS (cb S base n) := by rw [hb]; exact hi
  obtain ⟨k1, k2, k3⟩ := cD_sec (F := F) (c := c) hD hF hi'
  refine ⟨?_, by rw [k3, hb], ?_⟩
  · unfold f_ObjectFile_sitesOf
    rw [c_o hD.1.1.1.1.1, bs, k1, xb_mk, hb, show (24 : Int64) = lN 24 from rfl, pk_lDiv (by omega) (by decide) (by decide), lN_i]
    simp only [sN]
  · rw [k_targetOf hD.1.1 hF hi', hb, if_pos hs]
theorem k_target0 (hD : cD sk L τ q g base n S) (hF : 8 < F) (hb : cb S base n = b) (hi : i < oS b) (hs : ¬ isS b i = true) : f_ObjectFile_targetOf F c q (nI i) (cH sk L τ) = some (Int32.ofInt (-1), cH sk L τ) := by
  have hi' : i < oS (cb S base n) := by rw [hb]; exact hi
  rw [k_targetOf hD.1.1 hF hi', hb, if_neg hs]
theorem k_rf_52 {k11 : Nat → Option Nat → Option Nat → Int32 → px_H → Option (Unit × px_H)} {x : Nat} (hF : 65536 < F) (hW : WP s.2.2.1.length (tB fs s.2.2.1) s.2.1.1 xs) (hx : x < 24 * s.2.2.1.length) (hq : s.2.2.1[x / 24]? = some q) (hi : i < oS (tB fs s.2.2.1 (x / 24))) (hs : isS (tB fs s.2.2.1 (x / 24)) i = true) : ∀ (d j f : Nat) (τ : px_TT) (u : px_CQ), j + d = sN (tB fs s.2.2.1 (x / 24)) i → d < f → RQs sk L own τ fs s xs u → ∃ τ', f_Link_reachFrom_52 F c k11 f 147 (some (152 + x)) (some (10 + 2 * q)) (nI i) (nI (sP (tB fs s.2.2.1 (x / 24)) i j)) (nI (sN (tB fs s.2.2.1 (x / 24)) i)) (nI j) (cH sk L τ) = k11 147 (some (152 + x)) (some (10 + 2 * q)) (nI (i + 1)) (cH sk L τ') ∧ RQs sk L own τ' fs s xs (itr (cJ (tB fs s.2.2.1) s.2.1.1 xs (x / 24) i) j d u) ∧ frKr τ τ' := by
  intro d
  induction d with
  | zero =>
    intro j f τ u hj hf h
    obtain ⟨f, rfl⟩ : ∃ x, f = x + 1 := ⟨f - 1, by omega⟩
    have ht : x / 24 < s.2.2.1.length := by omega
    obtain ⟨q', q1, q2, hD, hcb, he, hp, hRS, h89⟩ := TKe_ob h.1 ht
    have hz := (eSit_0 he (isS_1 he hs) hi hs).2.2.2.1
    have hn : bsO fs q' + tNf fs s.2.2.1 (x / 24) ≤ 65536 := hD.1.1.1.1.2.2.2.2.2.2.2.2.1
    have hsN : sN (tB fs s.2.2.1 (x / 24)) i < 2 ^ 30 := by unfold sN; omega
    refine ⟨τ, ?_, h, frKr_refl⟩
    unfold f_Link_reachFrom_52 f_Link_reachFrom_102
    rw [if_pos (nI_le (by omega) (by omega)), nI_add]
  | succ d ih =>
    intro j f τ u hj hf h
    obtain ⟨f, rfl⟩ : ∃ x, f = x + 1 := ⟨f - 1, by omega⟩
    have ht : x / 24 < s.2.2.1.length := by omega
    obtain ⟨q', q1, q2, hD, hcb, he, hp, hRS, h89⟩ := TKe_ob h.1 ht
    have eq' : q' = q := by rw [hq] at q1; exact (Option.some.inj q1).symm
    rw [eq'] at hD hcb q2
    have hz := (eSit_0 he (isS_1 he hs) hi hs).2.2.2.1
    have hn : bsO fs q + tNf fs s.2.2.1 (x / 24) ≤ 65536 := hD.1.1.1.1.2.2.2.2.2.2.2.2.1
    have hsN : sN (tB fs s.2.2.1 (x / 24)) i < 2 ^ 30 := by unfold sN; omega
    obtain ⟨hpl, hy⟩ := s_place he hi hs (show j < sN (tB fs s.2.2.1 (x / 24)) i by omega)
    obtain ⟨s1, s2, s3, s4⟩ := k_site (F := F) (c := c) hD (by omega) hcb hpl
    obtain ⟨p1, p2, p3, p4⟩ := TKe_part h.1 hx
    have oq := hD.1.1.1.1.1
    have hsH : sH (tB fs s.2.2.1 (x / 24)) i j < 2 ^ 32 := by
      unfold sH
      rw [← hcb]
      exact le_lt (fun k => cb_lt _ _ _ k) _ 4
    have hsp : sP (tB fs s.2.2.1 (x / 24)) i j + 24 = sP (tB fs s.2.2.1 (x / 24)) i (j + 1) := by unfold sP; omega
    have go : ∀ τ1 u1, u1 = cJ (tB fs s.2.2.1) s.2.1.1 xs (x / 24) i j u → RQs sk L own τ1 fs s xs u1 → frKr τ τ1 → ∃ τ', f_Link_reachFrom_93 F c k11 (f_Link_reachFrom_52 F c k11 f) 147 (some (152 + x)) (some (10 + 2 * q)) (nI i) (nI (sP (tB fs s.2.2.1 (x / 24)) i j)) (nI (sN (tB fs s.2.2.1 (x / 24)) i)) (nI j) (cH sk L τ1) = k11 147 (some (152 + x)) (some (10 + 2 * q)) (nI (i + 1)) (cH sk L τ') ∧ RQs sk L own τ' fs s xs (itr (cJ (tB fs s.2.2.1) s.2.1.1 xs (x / 24) i) j (d + 1) u) ∧ frKr τ τ' := fun τ1 u1 e1 e2 e3 => by
      obtain ⟨τ', j1, j2, j3⟩ := ih (j + 1) f τ1 u1 (by omega) (by omega) e2
      refine ⟨τ', ?_, ?_, frKr_trans e3 j3⟩
      · unfold f_Link_reachFrom_93
        rw [nI_add, nI_add, hsp]
        exact j1
      · rw [itr_s, ← e1]; exact j2
    unfold f_Link_reachFrom_52
    rw [if_neg (nI_ge (by omega) (by omega)), bs, c_o oq, bs, nI_add, s2, xb_mk]
    by_cases c1 : sH (tB fs s.2.2.1 (x / 24)) i j = 0
    · rw [if_pos (by rw [c1])]
      exact go τ u (by unfold cJ; rw [if_pos c1]) h frKr_refl
    · rw [if_neg (show ¬ lN (sH (tB fs s.2.2.1 (x / 24)) i j) = lN 0 from fun z => c1 ((lEQ (by omega) (by decide)).mp z)), bs, C8g0 p1, bs, p3, c_o oq, bs, nI_add, s3, xb_mk, c_o (G147 h.1.1), bs, lN_i]
      obtain ⟨τ1, b1, b2, b3⟩ := k_reachSymbol (F := F) (c := c) h (by omega) hW ht hy
      rw [b1, xb_mk]
      exact go τ1 _ (by unfold cJ; rw [if_neg c1]) b2 b3
theorem k_rf_11 {x : Nat} (hF : 65536 < F) (hW : WP s.2.2.1.length (tB fs s.2.2.1) s.2.1.1 xs) (hx : x < 24 * s.2.2.1.length) (hq : s.2.2.1[x / 24]? = some q) : ∀ (d i f : Nat) (τ : px_TT) (u : px_CQ), i + d = oS (tB fs s.2.2.1 (x / 24)) → d < f → RQs sk L own τ fs s xs u → ∃ τ', f_Link_reachFrom_11 F c f 147 (some (152 + x)) (some (10 + 2 * q)) (nI i) (cH sk L τ) = some ((), cH sk L τ') ∧ RQs sk L own τ' fs s xs (itr (cI (tB fs s.2.2.1) s.2.1.1 xs (x / 24) (x % 24)) i d u) ∧ frKr τ τ' := by
  intro d
  induction d with
  | zero =>
    intro i f τ u hi hf h
    obtain ⟨f, rfl⟩ : ∃ x, f = x + 1 := ⟨f - 1, by omega⟩
    have ht : x / 24 < s.2.2.1.length := by omega
    obtain ⟨q', q1, q2, hD, hcb, he, hp, hRS, h89⟩ := TKe_ob h.1 ht
    have eq' : q' = q := by rw [hq] at q1; exact (Option.some.inj q1).symm
    rw [eq'] at hD hcb q2
    have hS24 := (TKe_ys h.1 _ ht).2.1
    refine ⟨τ, ?_, h, frKr_refl⟩
    unfold f_Link_reachFrom_11 f_Link_reachFrom_108
    rw [bs, C7g8 hD.1.1.1.1.1, bs, hD.1.1.1.2.2.2.2, hcb, if_pos (nI_le (by omega) (by omega))]
  | succ d ih =>
    intro i f τ u hi hf h
    obtain ⟨f, rfl⟩ : ∃ x, f = x + 1 := ⟨f - 1, by omega⟩
    have ht : x / 24 < s.2.2.1.length := by omega
    obtain ⟨q', q1, q2, hD, hcb, he, hp, hRS, h89⟩ := TKe_ob h.1 ht
    have eq' : q' = q := by rw [hq] at q1; exact (Option.some.inj q1).symm
    rw [eq'] at hD hcb q2
    have hS24 := (TKe_ys h.1 _ ht).2.1
    have oq := hD.1.1.1.1.1
    have hiS : i < oS (tB fs s.2.2.1 (x / 24)) := by omega
    obtain ⟨p1, p2, p3, p4⟩ := TKe_part h.1 hx
    have next : ∀ τ1 u1, u1 = cI (tB fs s.2.2.1) s.2.1.1 xs (x / 24) (x % 24) i u → RQs sk L own τ1 fs s xs u1 → frKr τ τ1 → ∃ τ', f_Link_reachFrom_11 F c f 147 (some (152 + x)) (some (10 + 2 * q)) (nI (i + 1)) (cH sk L τ1) = some ((), cH sk L τ') ∧ RQs sk L own τ' fs s xs (itr (cI (tB fs s.2.2.1) s.2.1.1 xs (x / 24) (x % 24)) i (d + 1) u) ∧ frKr τ τ' := fun τ1 u1 e1 e2 e3 => by
      obtain ⟨τ', j1, j2, j3⟩ := ih (i + 1) f τ1 u1 (by omega) (by omega) e2
      exact ⟨τ', j1, by rw [itr_s, ← e1]; exact j2, frKr_trans e3 j3⟩
    have no : cI (tB fs s.2.2.1) s.2.1.1 xs (x / 24) (x % 24) i u = u → ∃ τ', f_Link_reachFrom_102 F c (f_Link_reachFrom_11 F c f) 147 (some (152 + x)) (some (10 + 2 * q)) (nI i) (cH sk L τ) = some ((), cH sk L τ') ∧ RQs sk L own τ' fs s xs (itr (cI (tB fs s.2.2.1) s.2.1.1 xs (x / 24) (x % 24)) i (d + 1) u) ∧ frKr τ τ' := fun e => by
      unfold f_Link_reachFrom_102
      rw [nI_add]
      exact next τ u e.symm h frKr_refl
    unfold f_Link_reachFrom_11
    rw [bs, C7g8 oq, bs, hD.1.1.1.2.2.2.2, hcb, if_neg (nI_ge hiS (by omega)), c_o oq, bs]
    by_cases cs : isS (tB fs s.2.2.1 (x / 24)) i = true
    · obtain ⟨k1, k2, k3⟩ := k_sitesOf (F := F) (c := c) hD (by omega) hcb hiS cs
      have hoI := (eSit_0 he (isS_1 he cs) hiS cs).1
      rw [k3, xb_mk, bs, C8g3 p1, bs, p4]
      by_cases cw : oI (tB fs s.2.2.1 (x / 24)) i = x % 24
      · rw [if_pos (by rw [cw]), c_o oq, bs, k2, xb_mk, c_o oq, bs, k1, xb_mk, lN_i, show oP (tB fs s.2.2.1 (x / 24)) i = sP (tB fs s.2.2.1 (x / 24)) i 0 by unfold sP; omega]
        have hz := (eSit_0 he (isS_1 he cs) hiS cs).2.2.2.1
        have hn : bsO fs q + tNf fs s.2.2.1 (x / 24) ≤ 65536 := hD.1.1.1.1.2.2.2.2.2.2.2.2.1
        have hsN : sN (tB fs s.2.2.1 (x / 24)) i < F := by unfold sN; omega
        obtain ⟨τ1, b1, b2, b3⟩ := k_rf_52 (F := F) (c := c) (k11 := f_Link_reachFrom_11 F c f) hF hW hx hq hiS cs _ 0 F τ u (Nat.zero_add _) hsN h
        rw [b1]
        exact next τ1 _ (by unfold cI; rw [if_pos ⟨cs, cw⟩]) b2 b3
      · rw [if_neg (show ¬ nI (oI (tB fs s.2.2.1 (x / 24)) i) = nI (x % 24) from fun z => cw ((nI_eq (by omega) (by omega)).mp z))]
        exact no (by unfold cI; rw [if_neg (fun z => cw z.2)])
    · rw [k_target0 hD (by omega) hcb hiS cs, xb_mk, bs, C8g3 p1, bs, p4, if_neg (show ¬ Int32.ofInt (-1) = nI (x % 24) from fun z => nI_m1 (by omega) z.symm)]
      exact no (by unfold cI; rw [if_neg (fun z => cs z.1)])
theorem k_reachFrom {x : Nat} {u : px_CQ} (hF : 65536 < F) (hW : WP s.2.2.1.length (tB fs s.2.2.1) s.2.1.1 xs) (hx : x < 24 * s.2.2.1.length) (h : RQs sk L own τ fs s xs u) : ∃ τ', f_Link_reachFrom F c 147 (some (152 + x)) (cH sk L τ) = some ((), cH sk L τ') ∧ RQs sk L own τ' fs s xs (cP (tB fs s.2.2.1) s.2.1.1 xs x u) ∧ frKr τ τ' := by
  have ht : x / 24 < s.2.2.1.length := by omega
  have hq := List.getElem?_eq_getElem ht
  obtain ⟨p1, p2, p3, p4⟩ := TKe_part h.1 hx
  have hS24 := (TKe_ys h.1 _ ht).2.1
  obtain ⟨τ', j1, j2, j3⟩ := k_rf_11 (F := F) (c := c) hF hW hx hq _ 0 F τ u (Nat.zero_add _) (by omega) h
  refine ⟨τ', ?_, j2, j3⟩
  unfold f_Link_reachFrom
  rw [bs, C8g0 p1, bs, p3, c_o (G147 h.1.1), bs, k_object h.1 hq, xb_mk]
  exact j1
end CRF
