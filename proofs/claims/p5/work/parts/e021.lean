section
/-! class and reference in one heap (steps spelled out by sf/pp.py) -/
/-- two states agree at cell a -/
def agr (τ τ' : px_TT) (a : Nat) : Prop := (∀ k, fI τ' a k = fI τ a k) ∧ (∀ k, fJ τ' a k = fJ τ a k) ∧ (∀ k, fN τ' a k = fN τ a k) ∧ eI τ' a = eI τ a ∧ eJ τ' a = eJ τ a ∧ eN τ' a = eN τ a
section BRG
variable {sk sk' : Nat → Nat × Nat × Nat} {L L' : Nat} {own : Nat → Nat × Nat} {τ τ' : px_TT} {σ σ' : px_S} {fs : List (Nat × (Nat → Nat))} {gs : List (List Nat × Int64)} {ws : List (List Nat)} {n : Nat} {b : Nat → Nat} {a : Int32}
theorem cell_agr {x : Nat} (e : sk' x = sk x) (h : agr τ τ' x) : cell sk' τ' x = cell sk τ x := by
  obtain ⟨h1, h2, h3, h4, h5, h6⟩ := h
  have hc : ∀ ci, cv τ' ci x = cv τ ci x := fun ci => by
    funext k
    unfold cv
    rw [h1, h2, h3]
  unfold cell
  rw [e, hc, h4, h5, h6]
theorem CV_M (h : CV sk L own τ fs gs ws n b a) (e : EX sk L sk' L') (hA : ∀ x, (x < 1726 ∨ 1815 ≤ x) → agr τ τ' x) : CV sk' L' own τ' fs gs ws n b a := by
  obtain ⟨hS, hR, hn, hf, hg, hw, ht, hr, hz, hnd⟩ := h
  have hE : ∀ A, A < 1726 → eN τ' A = eN τ A := fun A hA' => (hA A (Or.inl hA')).2.2.2.2.2
  have cn : ∀ {N A : Nat} {vs : List (List Nat)}, CN sk L τ N A vs → (N = 140 ∨ N = 143) → (A = 141 ∨ A = 144) → CN sk' L' τ' N A vs := fun {N A vs} w hN' hA' => CN_mv w e ((hA N (by omega)).2.2.1 0) ((hA N (by omega)).1 2) (fun i _ => congrFun (hE A (by omega)) i) (fun i p _ hp => by
    have := (hn A i p (by omega) hp).1
    exact ⟨fun k _ => (hA p (by omega)).2.1 k, (hA p (by omega)).1 3⟩)
  refine ⟨⟨by have := e.1; have := hS.1; omega, fun x hx => (e.2 x (by have := hS.1; omega)).trans (hS.2 x hx)⟩, GR_mv hR (fun x k hx => (hA x (by omega)).2.2.1 k) (fun x k hx _ => (hA x (by omega)).1 k) (hE 9 (by decide)) (hE 151 (by decide)), fun A i p hA' hp => ?_, CF_mv hf e ⟨fun x k hx _ => (hA x (by omega)).1 k, fun x k hx => (hA x (by omega)).2.2.1 k, fun x hx => (hA x (by omega)).2.2.2.1⟩, ⟨cn hg.1 (Or.inl rfl) (Or.inl rfl), fun i x hx => ?_⟩, cn hw (Or.inr rfl) (Or.inr rfl), CTp_SI ht ((hA 1 (by omega)).1 1) (hA 2 (by omega)).2.2.2.1, CVr_fx hr e (fun x k hx => (hA x (by omega)).1 k) (fun k => (hA 1696 (by omega)).2.1 k) (fun x k hx => (hA x (by omega)).2.2.1 k) (fun x hx => (hA x (by omega)).2.2.2.1) (fun x hx => hE x (by omega)) (fun d p hp => ?_), fun q hq => ?_, hnd.1, ((hA 147 (by omega)).1 18).trans hnd.2⟩
  · rw [hE A (by omega)] at hp
    obtain ⟨w1, w2, w3⟩ := hn A i p hA' hp
    exact ⟨w1, ob_ex w2 e, w3⟩
  · rw [hE 141 (by decide), ← hg.2 i x hx]
    refine (hA _ ?_).2.1 7
    cases hq : eN τ 141 i with
    | none => exact Or.inl (by decide)
    | some p => exact Or.inr (hn 141 i p (Or.inl rfl) hq).1
  · have := (hn 149 d p (Or.inr (Or.inr rfl)) hp).1
    exact ⟨(hA p (by omega)).1 5, (hA p (by omega)).2.2.1 6⟩
  · obtain ⟨i, hi, rfl⟩ := hq
    rw [(hA _ (by omega)).1]
    exact hz _ ⟨i, hi, rfl⟩
end BRG
/-- what stands at the reference's cells, and at the row of one long behind them -/
def kM (i : Nat) : Nat × Nat × Nat := if i = 0 then (0, 12, 0) else if i = 88 then (1, 2, 1) else (1, (mr (mA.getD (i - 1) 0)).2.2.1, (mr (mA.getD (i - 1) 0)).2.2.2)
def SKm (sk : Nat → Nat × Nat × Nat) : Prop := ∀ i, i < 89 → sk (1726 + i) = kM i
/-- the reference's cells hold the state σ -/
def MQs (τ : px_TT) (σ : px_S) : Prop := (∀ k, fI τ 1726 k = gI σ k) ∧ (∀ k, fJ τ 1726 k = gJ σ k) ∧ (∀ k, k < 130 → 2 ≤ (mr k).1 → fN τ 1726 k = some (1726 + (mr k).2.1)) ∧ ∀ i, i < 87 → eI τ (1727 + i) = gA σ (mA.getD i 0) ∧ eJ τ (1727 + i) = gB σ (mA.getD i 0)
theorem mr_kd : ∀ k, k < 130 → ((mr k).1 = 0 ∧ cF 12 k = 0) ∨ ((mr k).1 = 1 ∧ cF 12 k = 1) ∨ (2 ≤ (mr k).1 ∧ cF 12 k = 2) := by decide +kernel
theorem mA_kd : ∀ i, i < 87 → ((mr (mA.getD i 0)).1 = 2 ∧ (mr (mA.getD i 0)).2.2.1 ≠ 2 ∧ (mr (mA.getD i 0)).2.2.1 ≤ 3) ∨ ((mr (mA.getD i 0)).1 = 3 ∧ (mr (mA.getD i 0)).2.2.1 = 2) := by decide +kernel
theorem cN_12 : cN 12 = 130 := by decide +kernel
theorem mA_ln : mA.length = 87 := by decide +kernel
section BRH
variable {sk sk' : Nat → Nat × Nat × Nat} {L L' : Nat} {own : Nat → Nat × Nat} {τ τ' : px_TT} {σ σ' : px_S}
theorem cv_M (hq : MQs τ σ) {k : Nat} (hk : k < 130) : cv τ 12 1726 k = fv 1726 σ k := by
  obtain ⟨q1, q2, q3, _⟩ := hq
  unfold cv fv
  rcases mr_kd k hk with ⟨e1, e2⟩ | ⟨e1, e2⟩ | ⟨e1, e2⟩
  · rw [if_pos e2, if_pos e1, q1]
  · rw [if_neg (by rw [e2]; decide), if_pos e2, if_neg (by rw [e1]; decide), if_pos e1, q2]
  · rw [if_neg (by rw [e2]; decide), if_neg (by rw [e2]; decide), if_neg (by omega), if_neg (by omega), q3 k hk e1]
    rfl
theorem cell_M (hk : SKm sk) (hq : MQs τ σ) {i : Nat} (hi : i < 88) : (mcs 1726 σ)[i]? = some (cell sk τ (1726 + i)) := by
  have e := hk i (by omega)
  cases i with
  | zero =>
    have e : sk 1726 = (0, 12, 0) := e
    show some (Sum.inr (12, mfs 1726 σ)) = some (cell sk τ 1726)
    unfold cell
    rw [e, if_pos rfl]
    show _ = some (Sum.inr (12, (List.range (cN 12)).map (cv τ 12 1726)))
    rw [cN_12]
    unfold mfs
    congr 3
    apply List.map_congr_left
    intro k hk'
    exact (cv_M hq (List.mem_range.mp hk')).symm
  | succ j =>
    have hj : j < 87 := by omega
    have e1 : kM (j + 1) = (1, (mr (mA.getD j 0)).2.2.1, (mr (mA.getD j 0)).2.2.2) := by
      unfold kM
      rw [if_neg (by omega), if_neg (by omega), Nat.add_sub_cancel]
    rw [e1] at e
    have h4 := hq.2.2.2 j hj
    rw [show 1727 + j = 1726 + (j + 1) by omega] at h4
    show (mA.map (arr σ))[j]? = _
    rw [List.getElem?_map, List.getElem?_eq_getElem (by rw [mA_ln]; exact hj)]
    have eg : mA[j]'(by rw [mA_ln]; exact hj) = mA.getD j 0 := by rw [List.getD_eq_getElem?_getD, List.getElem?_eq_getElem (by rw [mA_ln]; exact hj)]; rfl
    rw [eg]
    show some (arr σ (mA.getD j 0)) = _
    have kd := mA_kd j hj
    generalize mA.getD j 0 = g at *
    unfold cell arr
    rw [e, h4.1, h4.2]
    dsimp only
    rw [if_neg (show ¬ (1 = 0) by decide)]
    rcases kd with ⟨d1, d2, d3⟩ | ⟨d1, d2⟩
    · rw [if_pos d1, if_neg d2, if_pos d3]
    · rw [if_neg (by rw [d1]; decide), if_pos d2, d2]
theorem cH_M (hk : SKm sk) (hq : MQs τ σ) (hL : 1815 ≤ L) : cH sk L τ = mh 1726 (cH sk L τ) σ := by
  have e : ((cH sk L τ).drop 1726).take 88 = mcs 1726 σ := by
    apply List.ext_getElem?
    intro i
    by_cases hi : i < 88
    · rw [List.getElem?_take_of_lt hi, List.getElem?_drop, cH_at (by omega), cell_M hk hq hi]
    · rw [List.getElem?_eq_none (by rw [List.length_take]; omega), List.getElem?_eq_none (by rw [mcs_len]; omega)]
  unfold mh
  rw [← e, show (cH sk L τ).drop (1726 + 88) = ((cH sk L τ).drop 1726).drop 88 from by rw [List.drop_drop], List.take_append_drop, List.take_append_drop]
/-- the state with other contents of the reference's cells -/
def tM (τ : px_TT) (σ : px_S) : px_TT := (fun x k => if x = 1726 then gI σ k else fI τ x k, fun x k => if x = 1726 then gJ σ k else fJ τ x k, τ.2.2.1, fun x => if 1727 ≤ x ∧ x < 1814 then gA σ (mA.getD (x - 1727) 0) else eI τ x, fun x => if 1727 ≤ x ∧ x < 1814 then gB σ (mA.getD (x - 1727) 0) else eJ τ x, τ.2.2.2.2.2)
theorem agr_tM {x : Nat} (h : x < 1726 ∨ 1814 ≤ x) : agr τ (tM τ σ) x := by
  refine ⟨fun k => ?_, fun k => ?_, fun k => rfl, ?_, ?_, rfl⟩
  · show (if x = 1726 then gI σ k else fI τ x k) = _
    rw [if_neg (by omega)]
  · show (if x = 1726 then gJ σ k else fJ τ x k) = _
    rw [if_neg (by omega)]
  · show (if 1727 ≤ x ∧ x < 1814 then gA σ (mA.getD (x - 1727) 0) else eI τ x) = _
    rw [if_neg (by omega)]
  · show (if 1727 ≤ x ∧ x < 1814 then gB σ (mA.getD (x - 1727) 0) else eJ τ x) = _
    rw [if_neg (by omega)]
theorem MQs_tM (hq : MQs τ σ) : MQs (tM τ σ') σ' := by
  refine ⟨fun k => ?_, fun k => ?_, hq.2.2.1, fun i hi => ⟨?_, ?_⟩⟩
  · show (if 1726 = 1726 then gI σ' k else fI τ 1726 k) = _
    rw [if_pos rfl]
  · show (if 1726 = 1726 then gJ σ' k else fJ τ 1726 k) = _
    rw [if_pos rfl]
  · show (if 1727 ≤ 1727 + i ∧ 1727 + i < 1814 then gA σ' (mA.getD (1727 + i - 1727) 0) else eI τ (1727 + i)) = _
    rw [if_pos (by omega), Nat.add_sub_cancel_left]
  · show (if 1727 ≤ 1727 + i ∧ 1727 + i < 1814 then gB σ' (mA.getD (1727 + i - 1727) 0) else eJ τ (1727 + i)) = _
    rw [if_pos (by omega), Nat.add_sub_cancel_left]
theorem cH_tM (hk : SKm sk) (hq : MQs τ σ) (hL : 1815 ≤ L) : mh 1726 (cH sk L τ) σ' = cH sk L (tM τ σ') := by
  rw [cH_M hk (MQs_tM (σ' := σ') hq) hL]
  have h1 : ∀ x, (x < 1726 ∨ 1814 ≤ x) → (cH sk L (tM τ σ'))[x]? = (cH sk L τ)[x]? := fun x hx => by
    by_cases hxl : x < L
    · rw [cH_at hxl, cH_at hxl, cell_agr rfl (agr_tM hx)]
    · rw [List.getElem?_eq_none (by rw [cH_len]; omega), List.getElem?_eq_none (by rw [cH_len]; omega)]
  have e1 : (cH sk L (tM τ σ')).take 1726 = (cH sk L τ).take 1726 := by
    apply List.ext_getElem?
    intro i
    by_cases hi : i < 1726
    · rw [List.getElem?_take_of_lt hi, List.getElem?_take_of_lt hi, h1 i (Or.inl hi)]
    · rw [List.getElem?_eq_none (by rw [List.length_take]; omega), List.getElem?_eq_none (by rw [List.length_take]; omega)]
  have e2 : (cH sk L (tM τ σ')).drop (1726 + 88) = (cH sk L τ).drop (1726 + 88) := by
    apply List.ext_getElem?
    intro i
    rw [List.getElem?_drop, List.getElem?_drop, h1 _ (Or.inr (by omega))]
  unfold mh
  rw [e1, e2]
theorem MQs_K (hq : MQs τ σ) (h : K26 τ τ') : MQs τ' σ := by
  obtain ⟨q1, q2, q3, q4⟩ := hq
  obtain ⟨a1, a2, a3, a4, a5, a6⟩ := h 1726 (by decide) (by decide)
  refine ⟨fun k => (a1 k).trans (q1 k), fun k => (a2 k).trans (q2 k), fun k hk h2 => (a3 k).trans (q3 k hk h2), fun i hi => ?_⟩
  obtain ⟨b1, b2, b3, b4, b5, b6⟩ := h (1727 + i) (by omega) (by omega)
  exact ⟨b4.trans (q4 i hi).1, b5.trans (q4 i hi).2⟩
theorem SKm_EX (hk : SKm sk) (e : EX sk L sk' L') (hL : 1815 ≤ L) : SKm sk' := fun i hi => (e.2 _ (by omega)).trans (hk i hi)
/-- an exception's cell -/
theorem cH_ex {ci : Nat} (hc : cN ci = 0) : cH sk L τ ++ [.inr (ci, [])] = cH (skN sk L ci) (L + 1) τ ∧ EX sk L (skN sk L ci) (L + 1) := by
  have hlt : ∀ x, x < L → skN sk L ci x = sk x := fun x hx => by unfold skN; rw [if_neg (by omega)]
  refine ⟨?_, by omega, hlt⟩
  apply List.ext_getElem?
  intro i
  by_cases hi : i < L
  · rw [List.getElem?_append_left (by rw [cH_len]; exact hi), cH_at hi, cH_at (by omega), cell_agr (hlt i hi) ⟨fun _ => rfl, fun _ => rfl, fun _ => rfl, rfl, rfl, rfl⟩]
  · by_cases e : i = L
    · subst e
      rw [List.getElem?_append_right (by rw [cH_len]; omega), cH_len, Nat.sub_self, cH_at (by omega)]
      unfold cell
      rw [show skN sk i ci i = (0, ci, 0) by unfold skN; rw [if_pos rfl]]
      dsimp only
      rw [if_pos rfl, hc]
      rfl
    · rw [List.getElem?_eq_none (by rw [List.length_append, cH_len]; simp; omega), List.getElem?_eq_none (by rw [cH_len]; omega)]
end BRH
/-- room for the names of one link -/
theorem rmT_b {fs : px_FS} (hf : FSo fs) (hs : (fs.map Prod.fst).sum ≤ 4096) : rmT fs [] ≤ 170 := by
  have h1 : ∀ q, 24 * omQ fs q ≤ szQ fs q := fun q => by
    unfold omQ szQ
    cases e : obAt fs q with
    | none => exact Nat.le_refl _
    | some y =>
      show 24 * (if y.2.2.2 = true then 0 else oM y.2.2.1) ≤ y.2.1
      by_cases c : y.2.2.2 = true
      · rw [if_pos c]; omega
      · rw [if_neg c]
        obtain ⟨o, n, b, z⟩ := y
        have hz : z = false := Bool.eq_false_iff.mpr c
        subst hz
        exact oM_n (hf q o n b e).2
  have h2 : ∀ N, 24 * smN (omQ fs) N ≤ smN (szQ fs) N := fun N => by
    induction N with
    | zero => exact Nat.le_refl _
    | succ N ih =>
      rw [smN_s, smN_s]
      have := h1 N
      omega
  have h3 := h2 64
  have h4 := szQ_all (fs := fs)
  unfold rmT
  omega
end
section
/-! a call of the class and the same call of the reference (steps spelled out by sf/pp.py) -/
/-- f: what the class answers, g: what it throws (the exception's class), q: what the reference answers -/
def BT {α β : Type} (Rn : α → β → px_S → Prop) (Rt : Nat → px_S → Prop) (sk : Nat → Nat × Nat × Nat) (L : Nat) (τ : px_TT) (k N : Nat) (f : Option (α × px_H)) (g : Option (Nat × px_H)) (q : px_H → Option (β × px_H)) : Prop := ∃ fs gs ws n b a, n + (List.map Prod.fst fs).sum ≤ N ∧ ((∃ v sk' L' τ' own', f = some (v, cH sk' L' τ') ∧ EX sk L sk' L' ∧ K26 τ τ' ∧ RMk sk' L' k ∧ CV sk' L' own' τ' fs gs ws n b a ∧ ∀ h : px_H, 1726 ≤ h.length → ∃ w σ', q h = some (w, mh 1726 h σ') ∧ RV σ' fs gs ws n b a ∧ Rn v w σ') ∨ ∃ ci τ' own', g = some (ci, cH sk L τ') ∧ K26 τ τ' ∧ RMk sk L (k + 1) ∧ CV sk L own' τ' fs gs ws n b a ∧ ∀ h : px_H, 1726 ≤ h.length → ∃ w σ', q h = some (w, mh 1726 h σ') ∧ RV σ' fs gs ws n b a ∧ Rt ci σ')
theorem BT_mono {α β : Type} {Rn Rn' : α → β → px_S → Prop} {Rt Rt' : Nat → px_S → Prop} {sk : Nat → Nat × Nat × Nat} {L : Nat} {τ : px_TT} {k N : Nat} {f : Option (α × px_H)} {g : Option (Nat × px_H)} {q : px_H → Option (β × px_H)} (h : BT Rn Rt sk L τ k N f g q) (h1 : ∀ v w σ, Rn v w σ → Rn' v w σ) (h2 : ∀ c σ, Rt c σ → Rt' c σ) : BT Rn' Rt' sk L τ k N f g q := by
  obtain ⟨fs, gs, ws, n, b, a, hN, h⟩ := h
  refine ⟨fs, gs, ws, n, b, a, hN, ?_⟩
  rcases h with ⟨v, sk', L', τ', own', e1, e2, e3, e4, e5, e6⟩ | ⟨ci, τ', own', e1, e2, e3, e4, e5⟩
  · refine Or.inl ⟨v, sk', L', τ', own', e1, e2, e3, e4, e5, fun h hl => ?_⟩
    obtain ⟨w, σ', a1, a2, a3⟩ := e6 h hl
    exact ⟨w, σ', a1, a2, h1 _ _ _ a3⟩
  · refine Or.inr ⟨ci, τ', own', e1, e2, e3, e4, fun h hl => ?_⟩
    obtain ⟨w, σ', a1, a2, a3⟩ := e5 h hl
    exact ⟨w, σ', a1, a2, h2 _ _ a3⟩
theorem RMk_le {sk : Nat → Nat × Nat × Nat} {L k k' : Nat} (h : RMk sk L k') (hk : k ≤ k') : RMk sk L k := by
  unfold RMk at *
  omega
theorem nI_18 {y : Int32} (h1 : ¬ y < nI 1) (h2 : y ≤ nI 8) : ∃ w, 1 ≤ w ∧ w ≤ 8 ∧ y = nI w := by
  rw [Int32.lt_iff_toInt_lt] at h1
  rw [Int32.le_iff_toInt_le] at h2
  have e1 : (nI 1).toInt = 1 := by decide
  have e8 : (nI 8).toInt = 8 := by decide
  rw [e1] at h1
  rw [e8] at h2
  have h0 : ¬ y < 0 := by
    rw [Int32.lt_iff_toInt_lt]
    have e0 : (0 : Int32).toInt = 0 := by decide
    omega
  obtain ⟨k, hk, rfl⟩ := nI_of h0
  rw [nI_toInt hk] at h1 h2
  exact ⟨k, by omega, by omega, rfl⟩
abbrev Rn0 {α β : Type} : α → β → px_S → Prop := fun _ _ _ => True
section BTH
variable {F : Nat} {c : px_CT} {sk sk' : Nat → Nat × Nat × Nat} {L L' : Nat} {own : Nat → Nat × Nat} {τ τ' : px_TT} {σ : px_S} {fs : List (Nat × (Nat → Nat))} {gs : List (List Nat × Int64)} {ws : List (List Nat)} {n : Nat} {b : Nat → Nat} {a : Int32} {k N : Nat}
theorem BT_SI {α β : Type} {V : α → Prop} {Rt : Nat → px_S → Prop} {f : Option (α × px_H)} {g : Option (Nat × px_H)} {q : px_H → Option (β × px_H)} (hC : CV sk L own τ fs gs ws n b a) (hm : RMk sk L (k + 210)) (hN : n + (fs.map Prod.fst).sum ≤ N) (w : Sf sk L (SI none sk L τ) V f) (u : ∀ h : px_H, 1726 ≤ h.length → UM 1726 h fs gs ws n b a (q h)) : BT Rn0 Rt sk L τ k N f g q := by
  obtain ⟨v, τ', e, _, hI⟩ := w
  refine ⟨fs, gs, ws, n, b, a, hN, Or.inl ⟨v, sk, L, τ', own, e, EX_refl, K26_Z hI.1, RMk_le hm (by omega), CV_SI hC hI, fun h hl => ?_⟩⟩
  obtain ⟨w, σ', e1, e2⟩ := u h hl
  exact ⟨w, σ', e1, e2, trivial⟩
theorem BT_T {α β : Type} {Rt : Nat → px_S → Prop} {Rn : α → β → px_S → Prop} {f : Option (α × px_H)} {g : Option (Nat × px_H)} {q : px_H → Option (β × px_H)} {ci : Nat} (hC : CV sk L own τ fs gs ws n b a) (hm : RMk sk L (k + 210)) (hN : n + (fs.map Prod.fst).sum ≤ N) (hg : g = some (ci, cH sk L τ)) (hR : ∀ σ, Rt ci σ) (u : ∀ h : px_H, 1726 ≤ h.length → UM 1726 h fs gs ws n b a (q h)) : BT Rn Rt sk L τ k N f g q := by
  refine ⟨fs, gs, ws, n, b, a, hN, Or.inr ⟨ci, τ, own, hg, K26_refl τ, RMk_le hm (by omega), hC, fun h hl => ?_⟩⟩
  obtain ⟨w, σ', e1, e2⟩ := u h hl
  exact ⟨w, σ', e1, e2, hR _⟩
theorem B_look {x : Int32} (hF : 65540 < F) (hC : CV sk L own τ fs gs ws n b a) (hR : RV σ fs gs ws n b a) (hm : RMk sk L (k + 210)) (hN : n + (fs.map Prod.fst).sum ≤ N) : BT Rn0 (fun ci _ => ci = 13) sk L τ k N (f_H_look F c 0 x (cH sk L τ)) (g_H_look F c 0 x (cH sk L τ)) (fun h => f_M_look F 1726 x (mh 1726 h σ)) := by
  by_cases c1 : x < 0
  · exact BT_T hC hm hN (by unfold g_H_look g_H_look_10; rw [if_pos c1]) (fun _ => rfl) (fun h hl => u_look hl hR)
  · by_cases c2 : x ≤ nI 18
    · exact BT_SI hC hm hN (sf_Hlook (CV_S4 hC).1.1.1 hF (SI_self hC) c1 c2) (fun h hl => u_look hl hR)
    · exact BT_T hC hm hN (by unfold g_H_look g_H_look_10; rw [if_neg c1, if_neg c2]) (fun _ => rfl) (fun h hl => u_look hl hR)
theorem B_out {x : Int32} (hF : 65540 < F) (hC : CV sk L own τ fs gs ws n b a) (hR : RV σ fs gs ws n b a) (hm : RMk sk L (k + 210)) (hN : n + (fs.map Prod.fst).sum ≤ N) : BT Rn0 (fun ci _ => ci = 15) sk L τ k N (f_H_out F c 0 x (cH sk L τ)) (g_H_out F c 0 x (cH sk L τ)) (fun h => f_M_out F 1726 x (mh 1726 h σ)) := by
  rcases sf_Hout (F := F) (c := c) (i := x) (CV_S4 hC).1.1.1 hF (SI_self hC) with c1 | ⟨r, e1, e2, e3⟩ | w
  · exact BT_T hC hm hN (by unfold g_H_out g_H_out_15; rw [if_pos c1]) (fun _ => rfl) (fun h hl => u_out hl hF hR)
  · refine BT_T hC hm hN ?_ (fun _ => rfl) (fun h hl => u_out hl hF hR)
    unfold g_H_out g_H_out_15
    by_cases c1 : x < 0
    · rw [if_pos c1]
    · rw [if_neg c1, C0r1 (G0 hC.1) e1, bs, C10g1 e2, bs, if_neg e3]
  · exact BT_SI hC hm hN w (fun h hl => u_out hl hF hR)
theorem B_taken {x y : Int32} (hC : CV sk L own τ fs gs ws n b a) (hR : RV σ fs gs ws n b a) (hm : RMk sk L (k + 210)) (hN : n + (fs.map Prod.fst).sum ≤ N) : BT Rn0 (fun ci _ => ci = 15) sk L τ k N (f_H_taken F c 0 x y (cH sk L τ)) (g_H_taken F c 0 x y (cH sk L τ)) (fun h => f_M_taken F 1726 x y (mh 1726 h σ)) := by
  rcases sf_Htaken (F := F) (c := c) (i := x) (k := y) (CV_S4 hC) (SI_self hC) with e | w
  · exact BT_T hC hm hN (by unfold g_H_taken; rw [c_o (G0 hC.1), bs, e, xb_mk]) (fun _ => rfl) (fun h hl => u_taken hl hR)
  · exact BT_SI hC hm hN w (fun h hl => u_taken hl hR)
theorem B_cause {x y : Int32} (hF : 65540 < F) (hC : CV sk L own τ fs gs ws n b a) (hR : RV σ fs gs ws n b a) (hm : RMk sk L (k + 210)) (hN : n + (fs.map Prod.fst).sum ≤ N) : BT Rn0 (fun ci _ => ci = 15) sk L τ k N (f_H_cause F c 0 x y (cH sk L τ)) (g_H_cause F c 0 x y (cH sk L τ)) (fun h => f_M_cause F 1726 x y (mh 1726 h σ)) := by
  rcases sf_Hcause (F := F) (c := c) (i := x) (k := y) (CV_S4 hC) hF (SI_self hC) with e | w
  · exact BT_T hC hm hN (by unfold g_H_cause; rw [c_o (G0 hC.1), bs, e, xb_mk]) (fun _ => rfl) (fun h hl => u_cause hl hF hR)
  · exact BT_SI hC hm hN w (fun h hl => u_cause hl hF hR)
theorem B_list {x y : Int32} (hF : 65540 < F) (hC : CV sk L own τ fs gs ws n b a) (hR : RV σ fs gs ws n b a) (hm : RMk sk L (k + 210)) (hN : n + (fs.map Prod.fst).sum ≤ N) : BT Rn0 (fun ci _ => ci = 15) sk L τ k N (f_H_list F c 0 x y (cH sk L τ)) (g_H_list F c 0 x y (cH sk L τ)) (fun h => f_M_list F 1726 x y (mh 1726 h σ)) := by
  rcases sf_Hlist (F := F) (c := c) (i := x) (k := y) (CV_S4 hC) hF (SI_self hC) with e | w
  · exact BT_T hC hm hN (by unfold g_H_list; rw [c_o (G0 hC.1), bs, e, xb_mk]) (fun _ => rfl) (fun h hl => u_list hl hF hR)
  · exact BT_SI hC hm hN w (fun h hl => u_list hl hF hR)
theorem B_sum {x y z : Int32} (hF : 65540 < F) (hC : CV sk L own τ fs gs ws n b a) (hR : RV σ fs gs ws n b a) (hm : RMk sk L (k + 210)) (hN : n + (fs.map Prod.fst).sum ≤ N) : BT Rn0 (fun ci _ => ci = 15) sk L τ k N (f_H_sum F c 0 x y z (cH sk L τ)) (g_H_sum F c 0 x y z (cH sk L τ)) (fun h => f_M_sum F 1726 x y z (mh 1726 h σ)) := by
  rcases sf_Hsum (F := F) (c := c) (i := x) (k := y) (g := z) (CV_S4 hC) hF (SI_self hC) with e | ⟨q, e, hz⟩ | w
  · exact BT_T hC hm hN (by unfold g_H_sum g_H_sum_22; rw [c_o (G0 hC.1), bs, e, xb_mk]) (fun _ => rfl) (fun h hl => u_sum hl hF hR)
  · refine BT_T hC hm hN ?_ (fun _ => rfl) (fun h hl => u_sum hl hF hR)
    unfold g_H_sum g_H_sum_22
    rw [c_o (G0 hC.1), bs, e, xb_mk]
    dsimp only
    by_cases c1 : z < 0
    · rw [if_pos c1]
    · rw [if_neg c1, if_neg (hz.resolve_left c1)]
  · exact BT_SI hC hm hN w (fun h hl => u_sum hl hF hR)
theorem B_section {x y : Int32} (hC : CV sk L own τ fs gs ws n b a) (hR : RV σ fs gs ws n b a) (hm : RMk sk L (k + 210)) (hN : n + (fs.map Prod.fst).sum ≤ N) : BT Rn0 (fun ci _ => ci = 14 ∨ ci = 15) sk L τ k N (f_H_section F c 0 x y (cH sk L τ)) (g_H_section F c 0 x y (cH sk L τ)) (fun h => f_M_section F 1726 x y (mh 1726 h σ)) := by
  have u : ∀ h : px_H, 1726 ≤ h.length → UM 1726 h fs gs ws n b a (f_M_section F 1726 x y (mh 1726 h σ)) := fun h hl => u_section hl hR
  have o0 := G0 hC.1
  have r11 := C0r11 (τ := τ) o0 (GR_r (v := 147) hC.2.1 (by decide))
  have r13 := C0r13 (τ := τ) o0 (GR_r (v := 1700) hC.2.1 (by decide))
  have g11 := C2g11 (τ := τ) (a := 1700) (GS_o hC.1 (by decide) (by decide))
  have g18 := C3g18 (τ := τ) (G147 hC.1)
  by_cases c0 : fI τ 147 18 = 0
  · by_cases c1 : x < 0
    · exact BT_T hC hm hN (by unfold g_H_section g_H_section_44; rw [r11, bs, g18, bs, if_pos c0, if_pos c1]) (fun _ => Or.inr rfl) u
    · by_cases c2 : fI τ 1700 11 ≤ x
      · exact BT_T hC hm hN (by unfold g_H_section g_H_section_44; rw [r11, bs, g18, bs, if_pos c0, if_neg c1, r13, bs, g11, bs, if_pos c2]) (fun _ => Or.inr rfl) u
      · by_cases c3 : y < 0
        · exact BT_T hC hm hN (by unfold g_H_section g_H_section_44; rw [r11, bs, g18, bs, if_pos c0, if_neg c1, r13, bs, g11, bs, if_neg c2, if_pos c3]) (fun _ => Or.inr rfl) u
        · by_cases c4 : y ≤ nI 4
          · exact BT_SI hC hm hN (sf_Hsection (CV_S4 hC) (SI_self hC) c0 c1 c2 c3 c4) u
          · exact BT_T hC hm hN (by unfold g_H_section g_H_section_44; rw [r11, bs, g18, bs, if_pos c0, if_neg c1, r13, bs, g11, bs, if_neg c2, if_neg c3, if_neg c4]) (fun _ => Or.inr rfl) u
  · exact BT_T hC hm hN (by unfold g_H_section; rw [r11, bs, g18, bs, if_neg c0]) (fun _ => Or.inl rfl) u
theorem B_place {x : Int32} (hC : CV sk L own τ fs gs ws n b a) (hR : RV σ fs gs ws n b a) (hm : RMk sk L (k + 210)) (hN : n + (fs.map Prod.fst).sum ≤ N) : BT Rn0 (fun ci _ => ci = 14 ∨ ci = 15) sk L τ k N (f_H_place F c 0 x (cH sk L τ)) (g_H_place F c 0 x (cH sk L τ)) (fun h => f_M_place F 1726 x (mh 1726 h σ)) := by
  have u : ∀ h : px_H, 1726 ≤ h.length → UM 1726 h fs gs ws n b a (f_M_place F 1726 x (mh 1726 h σ)) := fun h hl => u_place hl hR
  have o0 := G0 hC.1
  have r11 := C0r11 (τ := τ) o0 (GR_r (v := 147) hC.2.1 (by decide))
  have r13 := C0r13 (τ := τ) o0 (GR_r (v := 1700) hC.2.1 (by decide))
  have g11 := C2g11 (τ := τ) (a := 1700) (GS_o hC.1 (by decide) (by decide))
  have g18 := C3g18 (τ := τ) (G147 hC.1)
  by_cases c0 : fI τ 147 18 = 0
  · by_cases c1 : x < 0
    · exact BT_T hC hm hN (by unfold g_H_place g_H_place_35; rw [r11, bs, g18, bs, if_pos c0, if_pos c1]) (fun _ => Or.inr rfl) u
    · by_cases c2 : x < fI τ 1700 11
      · exact BT_SI hC hm hN (sf_Hplace (CV_S4 hC) (SI_self hC) c0 c1 c2) u
      · exact BT_T hC hm hN (by unfold g_H_place g_H_place_35; rw [r11, bs, g18, bs, if_pos c0, if_neg c1, r13, bs, g11, bs, if_neg c2]) (fun _ => Or.inr rfl) u
  · exact BT_T hC hm hN (by unfold g_H_place; rw [r11, bs, g18, bs, if_neg c0]) (fun _ => Or.inl rfl) u
theorem B_named (hK : KT c) (hF : 65540 < F) (hC : CV sk L own τ fs gs ws n b a) (hR : RV σ fs gs ws n b a) (hm : RMk sk L (k + 210)) (hN : n + (fs.map Prod.fst).sum ≤ N) : BT Rn0 (fun ci _ => ci = 14) sk L τ k N (f_H_named F c 0 (cH sk L τ)) (g_H_named F c 0 (cH sk L τ)) (fun h => f_M_named F 1726 (mh 1726 h σ)) := by
  by_cases c0 : fI τ 147 18 = 0
  · exact BT_SI hC hm hN (sf_Hnamed (CV_S4 hC).1 hK hF (SI_self hC) c0) (fun h hl => u_named hl hF hR)
  · exact BT_T hC hm hN (by unfold g_H_named; rw [C0r11 (G0 hC.1) (GR_r (v := 147) hC.2.1 (by decide)), bs, C3g18 (G147 hC.1), bs, if_neg c0]) (fun _ => rfl) (fun h hl => u_named hl hF hR)
theorem B_map (hF : 65540 < F) (hC : CV sk L own τ fs gs ws n b a) (hR : RV σ fs gs ws n b a) (hm : RMk sk L (k + 210)) (hN : n + (fs.map Prod.fst).sum ≤ N) : BT Rn0 (fun ci _ => ci = 14) sk L τ k N (f_H_map F c 0 (cH sk L τ)) (g_H_map F c 0 (cH sk L τ)) (fun h => f_M_map F 1726 (mh 1726 h σ)) := by
  by_cases c0 : fI τ 147 18 = 0
  · exact BT_SI hC hm hN (sf_Hmap (CV_S4 hC).1 hF (SI_self hC) c0) (fun h hl => u_map hl hF hR)
  · exact BT_T hC hm hN (by unfold g_H_map; rw [C0r11 (G0 hC.1) (GR_r (v := 147) hC.2.1 (by decide)), bs, C3g18 (G147 hC.1), bs, if_neg c0]) (fun _ => rfl) (fun h hl => u_map hl hF hR)
theorem B_near {x : Int64} (hF : 65540 < F) (hC : CV sk L own τ fs gs ws n b a) (hR : RV σ fs gs ws n b a) (hm : RMk sk L (k + 210)) (hN : n + (fs.map Prod.fst).sum ≤ N) : BT Rn0 (fun _ _ => False) sk L τ k N (f_H_near F c 0 x (cH sk L τ)) none (fun h => f_M_near F 1726 x (mh 1726 h σ)) := BT_SI hC hm hN (sf_Hnear (CV_S4 hC).1.1.1 hF (SI_self hC)) (fun h hl => u_near hl hF hR)
theorem B_peek {x : Int64} (hF : 65540 < F) (hC : CV sk L own τ fs gs ws n b a) (hR : RV σ fs gs ws n b a) (hm : RMk sk L (k + 210)) (hN : n + (fs.map Prod.fst).sum ≤ N) : BT Rn0 (fun _ _ => False) sk L τ k N (f_H_peek F c 0 x (cH sk L τ)) none (fun h => f_M_peek F 1726 x (mh 1726 h σ)) := BT_SI hC hm hN (sf_Hpeek (CV_S4 hC).1.1.1 hF (SI_self hC)) (fun h hl => u_peek hl hF hR)
theorem B_flags {x : Int64} (hF : 65540 < F) (hC : CV sk L own τ fs gs ws n b a) (hR : RV σ fs gs ws n b a) (hm : RMk sk L (k + 210)) (hN : n + (fs.map Prod.fst).sum ≤ N) : BT Rn0 (fun _ _ => False) sk L τ k N (f_H_flags F c 0 x (cH sk L τ)) none (fun h => f_M_flags F 1726 x (mh 1726 h σ)) := BT_SI hC hm hN (sf_Hflags (CV_S4 hC).1.1.1 hF (SI_self hC)) (fun h hl => u_flags hl hF hR)
theorem B_pack (hK : KT c) (hF : 65540 < F) (hC : CV sk L own τ fs gs ws n b a) (hR : RV σ fs gs ws n b a) (hm : RMk sk L (k + 210)) (hN : n + (fs.map Prod.fst).sum ≤ N) : BT Rn0 (fun _ _ => False) sk L τ k N (f_H_pack F c 0 (cH sk L τ)) none (fun h => f_M_pack F 1726 (mh 1726 h σ)) := BT_SI hC hm hN (sf_Hpack (CV_S4 hC).1.1 hK hF (SI_self hC)) (fun h hl => u_pack hl hF hR)
theorem B_boot {x : Int32} (hK : KT c) (hF : 65540 < F) (hC : CV sk L own τ fs gs ws n b a) (hR : RV σ fs gs ws n b a) (hm : RMk sk L (k + 210)) (hN : n + (fs.map Prod.fst).sum ≤ N) : BT Rn0 (fun _ _ => False) sk L τ k N (f_H_boot F c 0 x (cH sk L τ)) none (fun h => f_M_boot F 1726 x (mh 1726 h σ)) := by
  have u : ∀ h : px_H, 1726 ≤ h.length → UM 1726 h fs gs ws (if x = 0 then n else 0) (if x = 0 then b else fun _ => 0) a (f_M_boot F 1726 x (mh 1726 h σ)) := fun h hl => u_boot hl hF hR
  obtain ⟨v, τ', e, _, hI⟩ := sf_Hboot (F := F) (c := c) (a1 := x) (CV_S4 hC) hK hF (SI_self hC)
  refine ⟨fs, gs, ws, if x = 0 then n else 0, if x = 0 then b else fun _ => 0, a, by split <;> omega, Or.inl ⟨v, sk, L, τ', own, e, EX_refl, ?_, RMk_le hm (by omega), ?_, fun h hl => ?_⟩⟩
  · rcases hI with ⟨_, hI⟩ | ⟨_, τ1, hI, rfl⟩
    · exact K26_Z hI.1
    · refine K26_trans (K26_Z hI.1) (fun y h1 h2 => ⟨fun k => (tI_ne (Or.inl (by omega))).trans (tI_ne (Or.inl (by omega))), fun _ => rfl, fun _ => rfl, rfl, rfl, rfl⟩)
  · rcases hI with ⟨e0, hI⟩ | ⟨e0, τ1, hI, rfl⟩
    · rw [if_pos e0, if_pos e0]; exact CV_SI hC hI
    · rw [if_neg e0, if_neg e0]; exact CV_clr (CV_SI hC hI)
  · obtain ⟨w, σ', e1, e2⟩ := u h hl
    exact ⟨w, σ', e1, e2, trivial⟩
theorem B_forget (hC : CV sk L own τ fs gs ws n b a) (hR : RV σ fs gs ws n b a) (hm : RMk sk L (k + 210)) (hN : n + (fs.map Prod.fst).sum ≤ N) : BT Rn0 (fun _ _ => False) sk L τ k N (f_H_forget F c 0 (cH sk L τ)) none (fun h => f_M_forget F 1726 (mh 1726 h σ)) := by
  obtain ⟨τ', e, h1, h2⟩ := v_forget (F := F) (c := c) hC
  refine ⟨fs, [], [], n, b, a, hN, Or.inl ⟨(), sk, L, τ', own, e, EX_refl, h2, RMk_le hm (by omega), h1, fun h hl => ?_⟩⟩
  obtain ⟨w, σ', e1, e2⟩ := u_forget (F := F) hl hR
  exact ⟨w, σ', e1, e2, trivial⟩
theorem B_address (hF : 65540 < F) (hC : CV sk L own τ fs gs ws n b a) (hR : RV σ fs gs ws n b a) (hm : RMk sk L (k + 210)) (hN : n + (fs.map Prod.fst).sum ≤ N) : BT Rn0 (fun ci _ => ci = 14) sk L τ k N (f_H_address F c 0 (cH sk L τ)) (g_H_address F c 0 (cH sk L τ)) (fun h => f_M_address F 1726 (mh 1726 h σ)) := by
  have u : ∀ h : px_H, 1726 ≤ h.length → UM 1726 h fs gs ws (if a = 0 then 0 else n) (if a = 0 then fun _ => 0 else b) a (f_M_address F 1726 (mh 1726 h σ)) := fun h hl => u_address hl hF hR
  have ea : fI τ 147 18 = a := hC.2.2.2.2.2.2.2.2.2.2
  by_cases c0 : a = 0
  · obtain ⟨v, τ', e, h1, h2⟩ := v_address (F := F) (c := c) hF hC c0
    refine ⟨fs, gs, ws, 0, fun _ => 0, a, by omega, Or.inl ⟨v, sk, L, τ', own, e, EX_refl, h2, RMk_le hm (by omega), h1, fun h hl => ?_⟩⟩
    obtain ⟨w, σ', e1, e2⟩ := u h hl
    rw [if_pos c0, if_pos c0] at e2
    exact ⟨w, σ', e1, e2, trivial⟩
  · refine BT_T hC hm hN (ci := 14) ?_ (fun _ => rfl) (fun h hl => ?_)
    · unfold g_H_address
      rw [C0r11 (G0 hC.1) (GR_r (v := 147) hC.2.1 (by decide)), bs, C3g18 (G147 hC.1), bs, if_neg (by rw [ea]; exact c0)]
    · have w := u h hl
      rw [if_neg c0, if_neg c0] at w
      exact w
end BTH
end
section
/-! a call of the class and the same call of the reference: what they answer (steps spelled out by sf/pp.py) -/
abbrev RnI (v w : Int32) (σ : px_S) : Prop := v = w ∧ gI σ 0 = nI 0
section BTI
variable {F : Nat} {c : px_CT} {sk sk' : Nat → Nat × Nat × Nat} {L L' : Nat} {own : Nat → Nat × Nat} {τ τ' : px_TT} {σ : px_S} {fs : List (Nat × (Nat → Nat))} {gs : List (List Nat × Int64)} {ws : List (List Nat)} {n : Nat} {b : Nat → Nat} {a : Int32} {k N : Nat}
theorem B_feed {y : Int32} {z : Int64} (hF : 65540 < F) (hC : CV sk L own τ fs gs ws n b a) (hR : RV σ fs gs ws n b a) (hm : RMk sk L (k + 210)) (hN : n + (fs.map Prod.fst).sum + 8 ≤ N) : BT RnI (fun ci σ => (ci = 13 ∧ gI σ 0 = nI 1) ∨ (ci = 14 ∧ gI σ 0 = nI 2)) sk L τ k N (f_H_feed F c 0 y z (cH sk L τ)) (g_H_feed F c 0 y z (cH sk L τ)) (fun h => f_M_feed F 1726 y z (mh 1726 h σ)) := by
  have bad : (y < nI 1 ∨ ¬ y ≤ nI 8) → g_H_feed F c 0 y z (cH sk L τ) = some (13, cH sk L τ) → BT RnI (fun ci σ => (ci = 13 ∧ gI σ 0 = nI 1) ∨ (ci = 14 ∧ gI σ 0 = nI 2)) sk L τ k N (f_H_feed F c 0 y z (cH sk L τ)) (g_H_feed F c 0 y z (cH sk L τ)) (fun h => f_M_feed F 1726 y z (mh 1726 h σ)) := fun hy hg =>
    ⟨fs, gs, ws, n, b, a, by omega, Or.inr ⟨13, τ, own, hg, K26_refl τ, RMk_le hm (by omega), hC, fun h hl => ⟨_, _, q_feed_w hl hy, RV_0 hR (FR_I _ _ _), Or.inl ⟨rfl, rfl⟩⟩⟩⟩
  by_cases c1 : y < nI 1
  · exact bad (Or.inl c1) (by unfold g_H_feed g_H_feed_11; rw [if_pos c1])
  · by_cases c2 : y ≤ nI 8
    · obtain ⟨w, w1, w8, rfl⟩ := nI_18 c1 c2
      obtain ⟨v, hv, rfl⟩ := wb_of z
      by_cases c3 : n + w ≤ 8192
      · obtain ⟨τ', e, h1, h2⟩ := v_feed (F := F) (c := c) hF hC hv w1 w8 c3
        refine ⟨fs, gs, ws, n + w, fdd b n v w, a, by omega, Or.inl ⟨_, sk, L, τ', own, e, EX_refl, h2, RMk_le hm (by omega), h1, fun h hl => ?_⟩⟩
        obtain ⟨σ', e1, e2, e3⟩ := u_feed (F := F) hl hF hR hv w1 w8 c3
        exact ⟨_, σ', e1, e3, rfl, e2⟩
      · have ht := hC.2.2.2.2.2.2.1
        refine ⟨fs, gs, ws, n, b, a, by omega, Or.inr ⟨14, τ, own, ?_, K26_refl τ, RMk_le hm (by omega), hC, fun h hl => ⟨_, _, q_feed_n hl w1 w8 c3 hR.1, RV_0 hR (FR_I _ _ _), Or.inr ⟨rfl, rfl⟩⟩⟩⟩
        have hn := ht.2.1
        unfold g_H_feed
        rw [if_neg c1, if_pos c2, C0r0 (G0 hC.1) (R0_0 hC.2.1), bs, C10g1 (G1 hC.1), bs, ht.1, nI_add, if_neg (nI_ge (a := 8192) (by omega) (by omega))]
    · exact bad (Or.inr c2) (by unfold g_H_feed g_H_feed_11; rw [if_neg c1, if_neg c2])
theorem sum_app (fs : List (Nat × (Nat → Nat))) (x : Nat × (Nat → Nat)) : ((fs ++ [x]).map Prod.fst).sum = (fs.map Prod.fst).sum + x.1 := by
  rw [List.map_append, List.sum_append]
  show _ + (x.1 + 0) = _
  rw [Nat.add_zero]
theorem B_add (hK : KT c) (hF : 65540 < F) (hC : CV sk L own τ fs gs ws n b a) (hR : RV σ fs gs ws n b a) (hm : RMk sk L (k + 210)) (hN : n + (fs.map Prod.fst).sum ≤ N) : BT RnI (fun ci σ => ci = 14 ∧ gI σ 0 = nI 1) sk L τ k N (f_H_add F c 0 (cH sk L τ)) (g_H_add F c 0 (cH sk L τ)) (fun h => f_M_add F 1726 (mh 1726 h σ)) := by
  have h8 := hR.2.1.2.1
  have e6 := hC.2.2.2.1.1
  by_cases c8 : fs.length = 8
  · refine ⟨fs, gs, ws, n, b, a, hN, Or.inr ⟨14, τ, own, ?_, K26_refl τ, RMk_le hm (by omega), hC, fun h hl => ?_⟩⟩
    · unfold g_H_add
      rw [C0g6 (G0 hC.1), bs, e6, c8, if_neg (by decide)]
    · obtain ⟨σ', e1, e2, e3⟩ := u_add (F := F) hl hF hR
      rw [if_pos c8] at e2
      rw [if_pos c8, if_pos c8, if_pos c8] at e3
      exact ⟨_, σ', e1, e3, rfl, e2⟩
  · obtain ⟨τ', e, h1, h2⟩ := v_add (F := F) (c := c) hK hF hC (by omega)
    refine ⟨if eFil b n = 0 then fs ++ [(n, b)] else fs, gs, ws, 0, fun _ => 0, a, ?_, Or.inl ⟨_, sk, L, τ', own, e, EX_refl, h2, RMk_le hm (by omega), h1, fun h hl => ?_⟩⟩
    · split
      · rw [sum_app]; omega
      · omega
    · obtain ⟨σ', e1, e2, e3⟩ := u_add (F := F) hl hF hR
      rw [if_neg c8] at e1 e2
      rw [if_neg c8, if_neg c8, if_neg c8] at e3
      exact ⟨_, σ', e1, e3, rfl, e2⟩
theorem B_drop (hF : 65540 < F) (hC : CV sk L own τ fs gs ws n b a) (hR : RV σ fs gs ws n b a) (hm : RMk sk L (k + 210)) (hN : n + (fs.map Prod.fst).sum ≤ N) : BT RnI (fun ci σ => ci = 14 ∧ gI σ 0 = nI 1) sk L τ k N (f_H_drop F c 0 (cH sk L τ)) (g_H_drop F c 0 (cH sk L τ)) (fun h => f_M_drop F 1726 (mh 1726 h σ)) := by
  rcases List.eq_nil_or_concat fs with e0 | ⟨fi, x, e0⟩
  · subst e0
    have e6 : fI τ 0 6 = nI 0 := hC.2.2.2.1.1
    refine ⟨[], gs, ws, n, b, a, hN, Or.inr ⟨14, τ, own, ?_, K26_refl τ, RMk_le hm (by omega), hC, fun h hl => ⟨_, _, q_drop_n hl hR.2.1, RV_0 hR (FR_I _ _ _), rfl, rfl⟩⟩⟩
    unfold g_H_drop
    rw [C0g6 (G0 hC.1), bs, e6, if_neg (show ¬ (0 : Int32) < nI 0 by decide)]
  · rw [List.concat_eq_append] at e0
    subst e0
    rw [sum_app] at hN
    obtain ⟨τ', e, h1, h2⟩ := v_drop (F := F) (c := c) hF hC
    refine ⟨fi, gs, ws, n, b, a, by omega, Or.inl ⟨_, sk, L, τ', own, e, EX_refl, h2, RMk_le hm (by omega), h1, fun h hl => ?_⟩⟩
    obtain ⟨σ', e1, e2, e3⟩ := u_drop (F := F) hl hR
    exact ⟨_, σ', e1, e3, rfl, e2⟩
theorem gcd_1 {vs : List (List Nat)} (h : tnm b n = false) : gcd' b n vs = 1 := by
  unfold gcd'
  rw [if_neg (by rw [h]; decide)]
theorem gcd_2 {vs : List (List Nat)} (h : tnm b n = true) (h0 : ¬ gcd' b n vs = 0) : gcd' b n vs = 2 ∧ (vs.length = 16 ∨ (idx (tk b 0 n) 0 vs).isSome = true) := by
  unfold gcd' at *
  rw [if_pos h] at h0 ⊢
  by_cases cc : vs.length = 16 ∨ (idx (tk b 0 n) 0 vs).isSome = true
  · rw [if_pos cc]; exact ⟨rfl, cc⟩
  · rw [if_neg cc] at h0; exact absurd rfl h0
theorem B_give {v : Int64} (hF : 65540 < F) (hC : CV sk L own τ fs gs ws n b a) (hR : RV σ fs gs ws n b a) (hm : RMk sk L (k + 210)) (hN : n + (fs.map Prod.fst).sum ≤ N) : BT RnI (fun ci σ => (ci = 13 ∧ gI σ 0 = nI 1) ∨ (ci = 14 ∧ gI σ 0 = nI 2)) sk L τ k N (f_H_give F c 0 v (cH sk L τ)) (g_H_give F c 0 v (cH sk L τ)) (fun h => f_M_give F 1726 v (mh 1726 h σ)) := by
  have u := fun (h : px_H) (hl : 1726 ≤ h.length) => u_give (F := F) (v := v) hl hF hR
  by_cases c0 : gcd' b n (gs.map Prod.fst) = 0
  · obtain ⟨sk', L', τ', own', e, h1, h2, h3, h4⟩ := v_give (F := F) (c := c) (v := v) (k := k) hF hC (RMk_le hm (by omega)) c0
    refine ⟨fs, gs ++ [(tk b 0 n, v)], ws, 0, fun _ => 0, a, by omega, Or.inl ⟨_, sk', L', τ', own', e, h1, h4, h2, h3, fun h hl => ?_⟩⟩
    obtain ⟨σ', e1, e2, e3⟩ := u h hl
    rw [if_pos c0] at e1 e3
    rw [c0] at e2
    exact ⟨_, σ', e1, e3, rfl, e2⟩
  · obtain ⟨τ1, e1, h1, h2, h3⟩ := v_readTapeName (F := F) (c := c) hF hC
    have u' : ∀ h : px_H, 1726 ≤ h.length → ∃ w σ', f_M_give F 1726 v (mh 1726 h σ) = some (w, mh 1726 h σ') ∧ gI σ' 0 = nI (gcd' b n (gs.map Prod.fst)) ∧ RV σ' fs gs ws 0 (fun _ => 0) a := fun h hl => by
      obtain ⟨σ', a1, a2, a3⟩ := u h hl
      rw [if_neg c0] at a3
      exact ⟨_, σ', a1, a2, a3⟩
    cases ht : tnm b n with
    | false =>
      rw [gcd_1 ht] at u'
      refine ⟨fs, gs, ws, 0, fun _ => 0, a, by omega, Or.inr ⟨13, τ1, own, ?_, h3, RMk_le hm (by omega), h1, fun h hl => ?_⟩⟩
      · unfold g_H_give
        rw [c_o (G0 hC.1), bs, e1, xb_mk, ht, if_pos (show bI false = 0 from rfl)]
      · obtain ⟨w, σ', a1, a2, a3⟩ := u' h hl
        exact ⟨w, σ', a1, a3, Or.inl ⟨rfl, a2⟩⟩
    | true =>
      obtain ⟨g2, g3⟩ := gcd_2 ht c0
      rw [g2] at u'
      refine ⟨fs, gs, ws, 0, fun _ => 0, a, by omega, Or.inr ⟨14, τ1, own, ?_, h3, RMk_le hm (by omega), h1, fun h hl => ?_⟩⟩
      · have hg1 := h1.2.2.2.2.1
        have hl16 : (gs.map Prod.fst).length ≤ 16 := hg1.1.2.2.2.1
        unfold g_H_give g_H_give_45
        rw [c_o (G0 hC.1), bs, e1, xb_mk, ht, if_neg (show ¬ bI true = 0 by decide), C0r8 (G0 hC.1) (R0_8 h1.2.1), bs, C0r10 (G0 hC.1) (R0_10 h1.2.1), bs, c_o (G140 hC.1), bs, k_find hg1.1 (G146 hC.1) (h2 ht) (tk_ok hC.2.2.2.2.2.2.1 ht) (by omega), xb_mk]
        cases hi : idx (tk b 0 n) 0 (gs.map Prod.fst) with
        | some i => rfl
        | none =>
          have hl : (gs.map Prod.fst).length = 16 := g3.resolve_right (by rw [hi]; decide)
          show ((xgR (cH sk L τ1) 0 8 0).bind _) = _
          rw [C0r8 (G0 hC.1) (R0_8 h1.2.1), bs, C6g2 (G140 hC.1), bs, hg1.1.2.2.2.2.2.1, hl, if_neg (by decide)]
      · obtain ⟨w, σ', a1, a2, a3⟩ := u' h hl
        exact ⟨w, σ', a1, a3, Or.inr ⟨rfl, a2⟩⟩
theorem B_wish (hF : 65540 < F) (hC : CV sk L own τ fs gs ws n b a) (hR : RV σ fs gs ws n b a) (hm : RMk sk L (k + 210)) (hN : n + (fs.map Prod.fst).sum ≤ N) : BT RnI (fun ci σ => (ci = 13 ∧ gI σ 0 = nI 1) ∨ (ci = 14 ∧ gI σ 0 = nI 2)) sk L τ k N (f_H_wish F c 0 (cH sk L τ)) (g_H_wish F c 0 (cH sk L τ)) (fun h => f_M_wish F 1726 (mh 1726 h σ)) := by
  have u := fun (h : px_H) (hl : 1726 ≤ h.length) => u_wish (F := F) hl hF hR
  by_cases c0 : gcd' b n ws = 0
  · obtain ⟨sk', L', τ', own', e, h1, h2, h3, h4⟩ := v_wish (F := F) (c := c) (k := k) hF hC (RMk_le hm (by omega)) c0
    refine ⟨fs, gs, ws ++ [tk b 0 n], 0, fun _ => 0, a, by omega, Or.inl ⟨_, sk', L', τ', own', e, h1, h4, h2, h3, fun h hl => ?_⟩⟩
    obtain ⟨σ', e1, e2, e3⟩ := u h hl
    rw [if_pos c0] at e1 e3
    rw [c0] at e2
    exact ⟨_, σ', e1, e3, rfl, e2⟩
  · obtain ⟨τ1, e1, h1, h2, h3⟩ := v_readTapeName (F := F) (c := c) hF hC
    have u' : ∀ h : px_H, 1726 ≤ h.length → ∃ w σ', f_M_wish F 1726 (mh 1726 h σ) = some (w, mh 1726 h σ') ∧ gI σ' 0 = nI (gcd' b n ws) ∧ RV σ' fs gs ws 0 (fun _ => 0) a := fun h hl => by
      obtain ⟨σ', a1, a2, a3⟩ := u h hl
      rw [if_neg c0] at a3
      exact ⟨_, σ', a1, a2, a3⟩
    cases ht : tnm b n with
    | false =>
      rw [gcd_1 ht] at u'
      refine ⟨fs, gs, ws, 0, fun _ => 0, a, by omega, Or.inr ⟨13, τ1, own, ?_, h3, RMk_le hm (by omega), h1, fun h hl => ?_⟩⟩
      · unfold g_H_wish
        rw [c_o (G0 hC.1), bs, e1, xb_mk, ht, if_pos (show bI false = 0 from rfl)]
      · obtain ⟨w, σ', a1, a2, a3⟩ := u' h hl
        exact ⟨w, σ', a1, a3, Or.inl ⟨rfl, a2⟩⟩
    | true =>
      obtain ⟨g2, g3⟩ := gcd_2 ht c0
      rw [g2] at u'
      refine ⟨fs, gs, ws, 0, fun _ => 0, a, by omega, Or.inr ⟨14, τ1, own, ?_, h3, RMk_le hm (by omega), h1, fun h hl => ?_⟩⟩
      · have hg1 := h1.2.2.2.2.2.1
        have hl16 : ws.length ≤ 16 := hg1.2.2.2.1
        unfold g_H_wish g_H_wish_45
        rw [c_o (G0 hC.1), bs, e1, xb_mk, ht, if_neg (show ¬ bI true = 0 by decide), C0r9 (G0 hC.1) (R0_9 h1.2.1), bs, C0r10 (G0 hC.1) (R0_10 h1.2.1), bs, c_o (G143 hC.1), bs, k_find hg1 (G146 hC.1) (h2 ht) (tk_ok hC.2.2.2.2.2.2.1 ht) (by omega), xb_mk]
        cases hi : idx (tk b 0 n) 0 ws with
        | some i => rfl
        | none =>
          have hl : ws.length = 16 := g3.resolve_right (by rw [hi]; decide)
          show ((xgR (cH sk L τ1) 0 9 0).bind _) = _
          rw [C0r9 (G0 hC.1) (R0_9 h1.2.1), bs, C6g2 (G143 hC.1), bs, hg1.2.2.2.2.2.1, hl, if_neg (by decide)]
      · obtain ⟨w, σ', a1, a2, a3⟩ := u' h hl
        exact ⟨w, σ', a1, a3, Or.inr ⟨rfl, a2⟩⟩
/-- the bytes of the files, as the link reads them -/
theorem BFs_RF (hr : RF σ fs) : BFs fs (fun x => b8 (gA σ 6 x)) := fun q o n b hq => by
  obtain ⟨_, _, _, _, q5, q6, _⟩ := RF_ob hr hq
  refine ⟨q6, fun x hx => ?_⟩
  rw [← q5]
  unfold cb
  rw [if_pos hx]
theorem B_link {rc : Bool} (hK : KT c) (hF : 65540 < F) (hC : CV sk L own τ fs gs ws n b a) (hR : RV σ fs gs ws n b a) (hm : RMk sk L (k + 210)) (hN : n + (fs.map Prod.fst).sum ≤ N) (hs : (fs.map Prod.fst).sum ≤ 4096) : BT (fun (v w : Int32) _ => v = w) (fun _ _ => False) sk L τ k N (f_H_link F c 0 (bI rc) (cH sk L τ)) none (fun h => f_M_link F 1726 (bI rc) (mh 1726 h σ)) := by
  have hr := hR.2.1
  have hB : RB σ (fun x => b8 (gA σ 6 x)) := ⟨hr.2.2.1, fun _ => rfl⟩
  have hBF := BFs_RF hr
  have hrm := rmT_b (RF_FSo hr) hs
  have hm' : RMk sk L (k + rmT fs [] + 32) := RMk_le hm (by omega)
  have hL : 1815 ≤ L := hC.1.1
  obtain ⟨σ1, j, s, e1, hj, hl1, _⟩ := u_link (rc := rc) (F := F) (m := 1726) (h := cH sk L τ) (by rw [cH_len]; omega) hF hR hB hs
  obtain ⟨sk', L', τ', own', e, h1, h2, h3, h4⟩ := v_link (F := F) (c := c) (k := k) hF hK hC hm' hs hBF hl1
  refine ⟨fs, gs, ws, n, b, nI j, hN, Or.inl ⟨_, sk', L', τ', own', e, h1, h4, h2, h3, fun h hl => ?_⟩⟩
  obtain ⟨σ2, j2, s2, e2, hj2, hl2, hv2⟩ := u_link (rc := rc) (F := F) (m := 1726) (h := h) hl hF hR hB hs
  obtain ⟨sk2, L2, τ2, own2, e3, _⟩ := v_link (F := F) (c := c) (k := k) hF hK hC hm' hs hBF hl2
  have ej : nI j = nI j2 := by
    rw [e] at e3
    exact (Prod.mk.inj (Option.some.inj e3)).1
  rw [ej]
  exact ⟨_, σ2, e2, hv2, rfl⟩
theorem B_merge (hK : KT c) (hF : 65540 < F) (hC : CV sk L own τ fs gs ws n b a) (hR : RV σ fs gs ws n b a) (hm : RMk sk L (k + 210)) (hN : n + (fs.map Prod.fst).sum ≤ N) (hs : (fs.map Prod.fst).sum ≤ 4096) : BT Rn0 (fun _ _ => False) sk L τ k N (f_H_merge F c 0 (cH sk L τ)) none (fun h => f_M_merge F 1726 (mh 1726 h σ)) := by
  have hr := hR.2.1
  have hB : RB σ (fun x => b8 (gA σ 6 x)) := ⟨hr.2.2.1, fun _ => rfl⟩
  have hBF := BFs_RF hr
  have hrm := rmT_b (RF_FSo hr) hs
  have hm' : RMk sk L (k + rmT fs [] + 32) := RMk_le hm (by omega)
  have hL : 1815 ≤ L := hC.1.1
  obtain ⟨v1, σ1, j, s, e1, hj, hl1, _⟩ := u_merge (F := F) (m := 1726) (h := cH sk L τ) (by rw [cH_len]; omega) hF hR hB hs
  obtain ⟨v, sk', L', τ', own', e, h1, h2, h3, h4⟩ := v_merge (F := F) (c := c) (k := k) hF hK hC hm' hs hBF hl1
  obtain ⟨_, _, _, _, e0, _⟩ := v_link (F := F) (c := c) (k := k) hF hK hC hm' hs hBF hl1
  refine ⟨fs, gs, ws, n, b, nI j, hN, Or.inl ⟨_, sk', L', τ', own', e, h1, h4, h2, h3, fun h hl => ?_⟩⟩
  obtain ⟨v2, σ2, j2, s2, e2, hj2, hl2, hv2⟩ := u_merge (F := F) (m := 1726) (h := h) hl hF hR hB hs
  obtain ⟨_, _, _, _, e3, _⟩ := v_link (F := F) (c := c) (k := k) hF hK hC hm' hs hBF hl2
  have ej : nI j = nI j2 := by
    rw [e0] at e3
    exact (Prod.mk.inj (Option.some.inj e3)).1
  rw [ej]
  exact ⟨_, σ2, e2, hv2, trivial⟩
end BTI
end
