/-! the class's pool takes strings -/
def frPo (τ τ' : px_TT) : Prop := (∀ a k, (a ≠ 1697 ∨ (k ≠ 3 ∧ k ≠ 4)) → fI τ' a k = fI τ a k) ∧ (∀ a k, fJ τ' a k = fJ τ a k) ∧ (∀ a k, fN τ' a k = fN τ a k) ∧ (∀ a, a ≠ 1698 → a ≠ 1699 → eI τ' a = eI τ a) ∧ (∀ a, eJ τ' a = eJ τ a) ∧ ∀ a, eN τ' a = eN τ a
theorem frPo_refl {τ : px_TT} : frPo τ τ := ⟨fun _ _ _ => rfl, fun _ _ => rfl, fun _ _ => rfl, fun _ _ _ => rfl, fun _ => rfl, fun _ => rfl⟩
theorem frPo_trans {τ τ1 τ2 : px_TT} (h : frPo τ τ1) (g : frPo τ1 τ2) : frPo τ τ2 := ⟨fun a k x => (g.1 a k x).trans (h.1 a k x), fun a k => (g.2.1 a k).trans (h.2.1 a k), fun a k => (g.2.2.1 a k).trans (h.2.2.1 a k), fun a x y => (g.2.2.2.1 a x y).trans (h.2.2.2.1 a x y), fun a => (g.2.2.2.2.1 a).trans (h.2.2.2.2.1 a), fun a => (g.2.2.2.2.2 a).trans (h.2.2.2.2.2 a)⟩
theorem eI_v_ne {τ : px_TT} {a b : Nat} {g : Nat → Int32} (h : b ≠ a) : eI (vI τ a g) b = eI τ b := u1_ne h
theorem eI_v_eq {τ : px_TT} {a : Nat} {g : Nat → Int32} : eI (vI τ a g) a = g := (u1_eq : u1 τ.2.2.2.1 a g a = g)
theorem psz_cat {B : Nat → Nat} : ∀ (a b : List Nat), psz B (a ++ b) = psz B a + psz B b
  | [], b => (Nat.zero_add _).symm
  | f :: a, b => by
    show (st B f).length + 1 + psz B (a ++ b) = (st B f).length + 1 + psz B a + psz B b
    rw [psz_cat a b]
    omega
/-- strings that stand somewhere in the first bytes -/
def stL (C : Nat → Nat) (l : List Nat) : Prop := l.Nodup ∧ ∀ f, f ∈ l → f < 32768 ∧ ∃ e, e < 32768 ∧ isSt C f e
theorem stL_len {C : Nat → Nat} {l : List Nat} (h : stL C l) : l.length ≤ 32768 := nodup_le 0 32768 l h.1 (fun x hx => by have := (h.2 x hx).1; omega)
theorem psz_le {C : Nat → Nat} : ∀ (l : List Nat), (∀ f, f ∈ l → f < 32768 ∧ ∃ e, e < 32768 ∧ isSt C f e) → psz C l ≤ 32768 * l.length
  | [], _ => Nat.zero_le _
  | f :: l, h => by
    obtain ⟨h1, e, h2, h3⟩ := h f (List.mem_cons_self ..)
    have := psz_le l (fun g hg => h g (List.mem_cons_of_mem _ hg))
    have hl := isSt_len h3
    have hf := h3.2.1
    show (st C f).length + 1 + psz C l ≤ 32768 * (l.length + 1)
    omega
def CPl (τ : px_TT) (C : Nat → Nat) (l : List Nat) : Prop := fI τ 1697 3 = nI l.length ∧ fI τ 1697 4 = nI (psz C l) ∧ stL C l ∧ ∀ (i f : Nat), l[i]? = some f → eI τ 1698 i = nI f ∧ eI τ 1699 i = nI ((st C f).length + 1)
def adm (C : Nat → Nat) (l : List Nat) (f : Nat) : List Nat := if l.any (fun w => sufB (st C f) (st C w)) = true then l else l.filter (fun w => !sufB (st C w) (st C f)) ++ [f]
section CPA
variable {F : Nat} {c : px_CT} {sk : Nat → Nat × Nat × Nat} {L : Nat} {τ : px_TT} {C : Nat → Nat} {f e : Nat} {l : List Nat}
theorem GR_Po {τ' : px_TT} (h : GR τ) (f : frPo τ τ') : GR τ' := GR_mv h (fun a k _ => f.2.2.1 a k) (fun a k ha _ => f.1 a k (Or.inl (by omega))) (f.2.2.2.2.2 9) (f.2.2.2.2.2 151)
theorem CB_Po {τ' : px_TT} (h : CB τ C) (f : frPo τ τ') : CB τ' C := by
  unfold CB
  rw [f.2.2.2.1 8 (by decide) (by decide)]
  exact h
theorem CPl_at (h : CPl τ C l) {i g : Nat} (hg : l[i]? = some g) : ∃ e', isSt C g e' ∧ e' < 32768 ∧ eI τ 1698 i = nI g ∧ eI τ 1699 i = nI (e' + 1 - g) := by
  obtain ⟨h1, e', h2, h3⟩ := h.2.2.1.2 g (List.mem_of_getElem? hg)
  obtain ⟨a1, a2⟩ := h.2.2.2 i g hg
  have := h3.2.1
  rw [isSt_len h3, show e' - g + 1 = e' + 1 - g by omega] at a2
  exact ⟨e', h3, h2, a1, a2⟩
theorem k_ad_2 (hS : GS sk L) (hR : GR τ) (hF : 65536 < F) (hb : CB τ C) (hp : CPl τ C l) (h : isSt C f e) : ∀ (d i n : Nat), i + d = l.length → d < n → f_Pool_admit_2 F c n 1697 (nI f) (nI (e + 1 - f)) (nI i) (cH sk L τ) = if (l.drop i).any (fun w => sufB (st C f) (st C w)) = true then some ((), cH sk L τ) else f_Pool_admit_38 F c 1697 (nI f) (nI (e + 1 - f)) (cH sk L τ) := by
  have hl := stL_len hp.2.2.1
  have o := G1697 hS
  intro d
  induction d with
  | zero =>
    intro i n hi hd
    obtain ⟨n, rfl⟩ : ∃ x, n = x + 1 := ⟨n - 1, by omega⟩
    unfold f_Pool_admit_2
    rw [C9g3 o, bs, hp.1, if_pos (nI_le (by omega) (by omega)), List.drop_of_length_le (by omega), List.any_nil, if_neg (by decide)]
  | succ d ih =>
    intro i n hi hd
    obtain ⟨n, rfl⟩ : ∃ x, n = x + 1 := ⟨n - 1, by omega⟩
    have hil : i < l.length := by omega
    have hg := List.getElem?_eq_getElem hil
    have hdr : l.drop i = l[i] :: l.drop (i + 1) := List.drop_eq_getElem_cons hil
    generalize l[i] = g at hg hdr
    obtain ⟨e', g1, g2, g3, g4⟩ := CPl_at hp hg
    unfold f_Pool_admit_2 f_Pool_admit_31
    rw [C9g3 o, bs, hp.1, if_neg (nI_ge hil (by omega)), C9r1 o (GR_r (v := 1698) hR (by decide)), bs, c_aI (G1698 hS) (by decide) (by decide) (by omega), bs, C9r2 o (GR_r (v := 1699) hR (by decide)), bs, c_aI (G1699 hS) (by decide) (by decide) (by omega), bs, c_o o, bs, g3, g4, k_isEnd hS hR hF hb h g1, xb_mk, hdr, List.any_cons]
    cases hs : sufB (st C f) (st C g) with
    | true => rw [if_neg (show ¬ bI true = 0 by decide), Bool.true_or, if_pos rfl]
    | false =>
      rw [if_pos (show bI false = 0 from rfl), Bool.false_or, nI_add]
      exact ih (i + 1) n (by omega) (by omega)
/-- the second loop: P is kept, i is looked at -/
theorem k_ad_43 (hS : GS sk L) (hF : 65536 < F) (h : isSt C f e) (hst : stL C l) : ∀ (d i n : Nat) (τ : px_TT) (P : List Nat), i + d = l.length → d < n → P.length ≤ i → GR τ → CB τ C → fI τ 1697 3 = nI l.length → fI τ 1697 4 = nI (psz C (P ++ l.drop i)) → stL C (P ++ l.drop i) → (∀ (k g : Nat), P[k]? = some g → eI τ 1698 k = nI g ∧ eI τ 1699 k = nI ((st C g).length + 1)) → (∀ (k g : Nat), i ≤ k → l[k]? = some g → eI τ 1698 k = nI g ∧ eI τ 1699 k = nI ((st C g).length + 1)) → ∃ τ', f_Pool_admit_43 F c n 1697 (nI f) (nI (e + 1 - f)) (nI P.length) (nI i) (cH sk L τ) = f_Pool_admit_129 F c 1697 (nI f) (nI (e + 1 - f)) (nI (P ++ (l.drop i).filter (fun w => !sufB (st C w) (st C f))).length) (cH sk L τ') ∧ fI τ' 1697 4 = nI (psz C (P ++ (l.drop i).filter (fun w => !sufB (st C w) (st C f)))) ∧ (∀ (k g : Nat), (P ++ (l.drop i).filter (fun w => !sufB (st C w) (st C f)))[k]? = some g → eI τ' 1698 k = nI g ∧ eI τ' 1699 k = nI ((st C g).length + 1)) ∧ frPo τ τ' := by
  have hl := stL_len hst
  have o := G1697 hS
  intro d
  induction d with
  | zero =>
    intro i n τ P hi hd hPi hR hb h3 h4 hsP hP hK
    obtain ⟨n, rfl⟩ : ∃ x, n = x + 1 := ⟨n - 1, by omega⟩
    have hdr : l.drop i = [] := List.drop_of_length_le (by omega)
    rw [hdr] at h4 ⊢
    rw [List.filter_nil, List.append_nil] at *
    refine ⟨τ, ?_, h4, hP, frPo_refl⟩
    unfold f_Pool_admit_43
    rw [C9g3 o, bs, h3, if_pos (nI_le (by omega) (by omega))]
  | succ d ih =>
    intro i n τ P hi hd hPi hR hb h3 h4 hsP hP hK
    obtain ⟨n, rfl⟩ : ∃ x, n = x + 1 := ⟨n - 1, by omega⟩
    have hil : i < l.length := by omega
    have hg := List.getElem?_eq_getElem hil
    have hdr : l.drop i = l[i] :: l.drop (i + 1) := List.drop_eq_getElem_cons hil
    generalize l[i] = g at hg hdr
    obtain ⟨g0, e', g2, g1⟩ := hst.2 g (List.mem_of_getElem? hg)
    obtain ⟨g3, g4⟩ := hK i g (Nat.le_refl _) hg
    have hge := g1.2.1
    have g4' := g4
    rw [isSt_len g1, show e' - g + 1 = e' + 1 - g by omega] at g4'
    have hpz := psz_le _ hsP.2
    have hPl := stL_len hsP
    rw [List.length_append] at hPl
    rw [hdr] at h4 hsP ⊢
    have hP15 : P.length < 32769 := by omega
    unfold f_Pool_admit_43
    rw [C9g3 o, bs, h3, if_neg (nI_ge hil (by omega)), C9r1 o (GR_r (v := 1698) hR (by decide)), bs, c_aI (G1698 hS) (by decide) (by decide) (by omega), bs, C9r2 o (GR_r (v := 1699) hR (by decide)), bs, c_aI (G1699 hS) (by decide) (by decide) (by omega), bs, c_o o, bs, g3, g4', k_isEnd hS hR hF hb g1 h, xb_mk]
    cases hs : sufB (st C g) (st C f) with
    | false =>
      rw [if_pos (show bI false = 0 from rfl), C9r1 o (GR_r (v := 1698) hR (by decide)), bs, bs, c_aI (G1698 hS) (by decide) (by decide) (by omega), bs, g3, c_sI (G1698 hS) (by decide) (by decide) hP15, bs]
      obtain ⟨τ1, hτ1⟩ : ∃ x, x = vI τ 1698 (upd (eI τ 1698) P.length (nI g)) := ⟨_, rfl⟩
      rw [← hτ1]
      have e99 : eI τ1 1699 = eI τ 1699 := by rw [hτ1]; exact eI_v_ne (by decide)
      have r2 : fN τ1 1697 2 = some 1699 := by rw [hτ1]; exact GR_r (τ := τ) hR (by decide)
      rw [C9r2 o r2, bs, bs, c_aI (G1699 hS) (by decide) (by decide) (by omega), bs, e99, g4, c_sI (G1699 hS) (by decide) (by decide) hP15, bs]
      obtain ⟨τ2, hτ2⟩ : ∃ x, x = vI τ1 1699 (upd (eI τ1 1699) P.length (nI ((st C g).length + 1))) := ⟨_, rfl⟩
      rw [← hτ2]
      have e98 : eI τ2 1698 = upd (eI τ 1698) P.length (nI g) := by
        rw [hτ2, eI_v_ne (by decide), hτ1, eI_v_eq]
      have e992 : eI τ2 1699 = upd (eI τ 1699) P.length (nI ((st C g).length + 1)) := by
        rw [hτ2, e99, eI_v_eq]
      have f2 : frPo τ τ2 := ⟨fun a k _ => by rw [hτ2, hτ1]; rfl, fun a k => by rw [hτ2, hτ1]; rfl, fun a k => by rw [hτ2, hτ1]; rfl, fun a q1 q2 => by rw [hτ2, eI_v_ne q2, hτ1, eI_v_ne q1], fun a => by rw [hτ2, hτ1]; rfl, fun a => by rw [hτ2, hτ1]; rfl⟩
      have hcat : P ++ g :: l.drop (i + 1) = (P ++ [g]) ++ l.drop (i + 1) := by rw [List.append_assoc]; rfl
      rw [hcat] at h4 hsP
      have hfl : P ++ (g :: l.drop (i + 1)).filter (fun w => !sufB (st C w) (st C f)) = (P ++ [g]) ++ (l.drop (i + 1)).filter (fun w => !sufB (st C w) (st C f)) := by
        rw [List.filter_cons_of_pos (by rw [hs]; rfl), List.append_assoc]
        rfl
      rw [hfl]
      obtain ⟨τ', j1, j2, j3, j4⟩ := ih (i + 1) n τ2 (P ++ [g]) (by omega) (by omega) (by rw [List.length_append, List.length_singleton]; omega) (GR_Po hR f2) (CB_Po hb f2) (by rw [hτ2, hτ1]; exact h3) (by rw [hτ2, hτ1]; exact h4) hsP (fun k g' hk => by
        rw [e98, e992]
        by_cases ck : k < P.length
        · rw [List.getElem?_append_left ck] at hk
          rw [upd_ne (by omega), upd_ne (by omega)]
          exact hP k g' hk
        · have ek : k = P.length := by
            have := (List.getElem?_eq_some_iff.mp hk).1
            rw [List.length_append, List.length_singleton] at this
            omega
          rw [ek, List.getElem?_append_right (Nat.le_refl _), Nat.sub_self] at hk
          have hk : g = g' := Option.some.inj hk
          rw [ek, upd_eq, upd_eq, hk]
          exact ⟨rfl, rfl⟩) (fun k g' hk hk2 => by
        rw [e98, e992, upd_ne (by omega), upd_ne (by omega)]
        exact hK k g' (by omega) hk2)
      refine ⟨τ', ?_, j2, j3, frPo_trans f2 j4⟩
      unfold f_Pool_admit_123
      rw [nI_add, nI_add, show P.length + 1 = (P ++ [g]).length by rw [List.length_append, List.length_singleton]]
      exact j1
    | true =>
      have hpg : psz C (P ++ g :: l.drop (i + 1)) = psz C (P ++ l.drop (i + 1)) + ((st C g).length + 1) := by
        rw [psz_cat, psz_cat]
        show psz C P + ((st C g).length + 1 + psz C (l.drop (i + 1))) = _
        omega
      rw [if_neg (show ¬ bI true = 0 by decide), C9g4 o, bs, h4, C9r2 o (GR_r (v := 1699) hR (by decide)), bs, c_aI (G1699 hS) (by decide) (by decide) (by omega), bs, g4, hpg, pk_sub (by omega), Nat.add_sub_cancel, C9p4 o, bs]
      obtain ⟨τ1, hτ1⟩ : ∃ x, x = tI τ 1697 4 (nI (psz C (P ++ l.drop (i + 1)))) := ⟨_, rfl⟩
      rw [← hτ1]
      have f1 : frPo τ τ1 := by
        rw [hτ1]
        exact ⟨fun a k q => tI_ne (by omega), fun _ _ => rfl, fun _ _ => rfl, fun _ _ _ => rfl, fun _ => rfl, fun _ => rfl⟩
      have hfl : P ++ (g :: l.drop (i + 1)).filter (fun w => !sufB (st C w) (st C f)) = P ++ (l.drop (i + 1)).filter (fun w => !sufB (st C w) (st C f)) := by
        rw [List.filter_cons_of_neg (by rw [hs]; decide)]
      rw [hfl]
      have hsP1 : stL C (P ++ l.drop (i + 1)) := by
        refine ⟨?_, fun z hz => hsP.2 z ?_⟩
        · exact List.Nodup.sublist (List.Sublist.append_left (List.sublist_cons_self _ _) P) hsP.1
        · rcases List.mem_append.mp hz with q | q
          · exact List.mem_append.mpr (Or.inl q)
          · exact List.mem_append.mpr (Or.inr (List.mem_cons_of_mem _ q))
      obtain ⟨τ', j1, j2, j3, j4⟩ := ih (i + 1) n τ1 P (by omega) (by omega) (by omega) (GR_Po hR f1) (CB_Po hb f1) (by rw [hτ1, tI_ne (Or.inr (by decide))]; exact h3) (by rw [hτ1, tI_at]) hsP1 (by rw [hτ1]; exact hP) (fun k g' hk hk2 => by rw [hτ1]; exact hK k g' (by omega) hk2)
      refine ⟨τ', ?_, j2, j3, frPo_trans f1 j4⟩
      unfold f_Pool_admit_123
      rw [nI_add]
      exact j1
theorem k_admit (hS : GS sk L) (hR : GR τ) (hF : 65536 < F) (hb : CB τ C) (hp : CPl τ C l) (h : isSt C f e) (he : e < 32768) : ∃ τ', f_Pool_admit F c 1697 (nI f) (nI (e + 1 - f)) (cH sk L τ) = some ((), cH sk L τ') ∧ CPl τ' C (adm C l f) ∧ frPo τ τ' := by
  have hl := stL_len hp.2.2.1
  have o := G1697 hS
  have hfe := h.2.1
  unfold f_Pool_admit adm
  rw [k_ad_2 hS hR hF hb hp h l.length 0 F (by omega) (by omega), List.drop_zero]
  by_cases ca : l.any (fun w => sufB (st C f) (st C w)) = true
  · rw [if_pos ca, if_pos ca]
    exact ⟨τ, rfl, hp, frPo_refl⟩
  · rw [if_neg ca, if_neg ca]
    have hnf : f ∉ l := fun q => ca (List.any_eq_true.mpr ⟨f, q, sufB_refl⟩)
    unfold f_Pool_admit_38
    obtain ⟨τ1, a1, a2, a3, a4⟩ := k_ad_43 (F := F) (c := c) hS hF h hp.2.2.1 l.length 0 F τ [] (by omega) (by omega) (Nat.le_refl _) hR hb hp.1 hp.2.1 hp.2.2.1 (fun k g hk => by rw [List.getElem?_nil] at hk; cases hk) (fun k g _ hk => hp.2.2.2 k g hk)
    rw [List.drop_zero, List.nil_append] at a1 a2 a3
    have a1 : f_Pool_admit_43 F c F 1697 (nI f) (nI (e + 1 - f)) (nI 0) (nI 0) (cH sk L τ) = _ := a1
    rw [a1]
    obtain ⟨Q, hQ⟩ : ∃ Q, Q = l.filter (fun w => !sufB (st C w) (st C f)) := ⟨_, rfl⟩
    rw [← hQ] at a2 a3 ⊢
    have hsub : List.Sublist Q l := by rw [hQ]; exact List.filter_sublist
    have hQn : Q.Nodup := List.Nodup.sublist hsub hp.2.2.1.1
    have hstQ : stL C (Q ++ [f]) := by
      refine ⟨List.nodup_append.mpr ⟨hQn, List.Pairwise.cons (fun _ h => nomatch h) List.Pairwise.nil, fun a ha b' hb' q => ?_⟩, fun z hz => ?_⟩
      · rw [List.mem_singleton] at hb'
        rw [q, hb'] at ha
        exact hnf (hsub.mem ha)
      · rcases List.mem_append.mp hz with q | q
        · exact hp.2.2.1.2 z (hsub.mem q)
        · rw [List.mem_singleton] at q
          rw [q]
          exact ⟨by omega, e, he, h⟩
    have hQl := stL_len hstQ
    rw [List.length_append, List.length_singleton] at hQl
    have hpz := psz_le _ hstQ.2
    rw [psz_app, List.length_append, List.length_singleton] at hpz
    have hfl := isSt_len h
    have hR1 := GR_Po hR a4
    unfold f_Pool_admit_129 f_Pool_admit_186
    rw [C9p3 o, bs]
    obtain ⟨τ2, hτ2⟩ : ∃ x, x = tI τ1 1697 3 (nI Q.length) := ⟨_, rfl⟩
    have e3 : fI τ2 1697 3 = nI Q.length := by rw [hτ2, tI_at]
    have r1 : fN τ2 1697 1 = some 1698 := by rw [hτ2]; exact GR_r (τ := τ1) hR1 (by decide)
    rw [← hτ2, C9g3 o, bs, e3, C9r1 o r1, bs, c_l (G1698 hS) (by decide), bs, if_neg (nI_ge (by omega) (by omega)), bs, bs, c_sI (G1698 hS) (by decide) (by decide) (by omega), bs]
    obtain ⟨τ3, hτ3⟩ : ∃ x, x = vI τ2 1698 (upd (eI τ2 1698) Q.length (nI f)) := ⟨_, rfl⟩
    have e33 : fI τ3 1697 3 = nI Q.length := by rw [hτ3]; exact e3
    have r2 : fN τ3 1697 2 = some 1699 := by rw [hτ3, hτ2]; exact GR_r (τ := τ1) hR1 (by decide)
    rw [← hτ3, C9r2 o r2, bs, C9g3 o, bs, e33, c_sI (G1699 hS) (by decide) (by decide) (by omega), bs]
    obtain ⟨τ4, hτ4⟩ : ∃ x, x = vI τ3 1699 (upd (eI τ3 1699) Q.length (nI (e + 1 - f))) := ⟨_, rfl⟩
    have e34 : fI τ4 1697 3 = nI Q.length := by rw [hτ4]; exact e33
    rw [← hτ4, C9g3 o, bs, e34, nI_add, C9p3 o, bs]
    obtain ⟨τ5, hτ5⟩ : ∃ x, x = tI τ4 1697 3 (nI (Q.length + 1)) := ⟨_, rfl⟩
    have e45 : fI τ5 1697 4 = nI (psz C Q) := by rw [hτ5, tI_ne (Or.inr (by decide)), hτ4, hτ3]; show fI τ2 1697 4 = _; rw [hτ2, tI_ne (Or.inr (by decide))]; exact a2
    rw [← hτ5, C9g4 o, bs, e45, nI_add, C9p4 o, bs]
    obtain ⟨τ6, hτ6⟩ : ∃ x, x = tI τ5 1697 4 (nI (psz C Q + (e + 1 - f))) := ⟨_, rfl⟩
    rw [← hτ6]
    have e98 : eI τ6 1698 = upd (eI τ1 1698) Q.length (nI f) := by
      rw [hτ6, hτ5]
      show eI τ4 1698 = _
      rw [hτ4, eI_v_ne (by decide), hτ3, eI_v_eq, hτ2]
      rfl
    have e99 : eI τ6 1699 = upd (eI τ1 1699) Q.length (nI (e + 1 - f)) := by
      rw [hτ6, hτ5]
      show eI τ4 1699 = _
      rw [hτ4, eI_v_eq, hτ3, eI_v_ne (by decide), hτ2]
      rfl
    have f6 : frPo τ1 τ6 := ⟨fun a k q => by rw [hτ6, tI_ne (by omega), hτ5, tI_ne (by omega), hτ4, hτ3]; show fI τ2 a k = _; rw [hτ2, tI_ne (by omega)], fun a k => by rw [hτ6, hτ5, hτ4, hτ3, hτ2]; rfl, fun a k => by rw [hτ6, hτ5, hτ4, hτ3, hτ2]; rfl, fun a q1 q2 => by rw [hτ6, hτ5]; show eI τ4 a = _; rw [hτ4, eI_v_ne q2, hτ3, eI_v_ne q1, hτ2]; rfl, fun a => by rw [hτ6, hτ5, hτ4, hτ3, hτ2]; rfl, fun a => by rw [hτ6, hτ5, hτ4, hτ3, hτ2]; rfl⟩
    refine ⟨τ6, rfl, ⟨?_, ?_, hstQ, fun i g hg => ?_⟩, frPo_trans a4 f6⟩
    · rw [hτ6, tI_ne (Or.inr (by decide)), hτ5, tI_at, List.length_append, List.length_singleton]
    · rw [hτ6, tI_at, psz_app, hfl, show e - f + 1 = e + 1 - f by omega]
    · rw [e98, e99]
      by_cases ci : i < Q.length
      · rw [List.getElem?_append_left ci] at hg
        rw [upd_ne (by omega), upd_ne (by omega)]
        exact a3 i g hg
      · have ei : i = Q.length := by
          have := (List.getElem?_eq_some_iff.mp hg).1
          rw [List.length_append, List.length_singleton] at this
          omega
        rw [ei, List.getElem?_append_right (Nat.le_refl _), Nat.sub_self] at hg
        have hg : f = g := Option.some.inj hg
        rw [ei, upd_eq, upd_eq, ← hg, hfl, show e - f + 1 = e + 1 - f by omega]
        exact ⟨rfl, rfl⟩
end CPA
