/-! class and reference in one heap (steps spelled out by sf/pp.py) -/
/-- two states agree at cell a -/
def agr (τ τ' : px_TT) (a : Nat) : Prop := (∀ k, fI τ' a k = fI τ a k) ∧ (∀ k, fJ τ' a k = fJ τ a k) ∧ (∀ k, fN τ' a k = fN τ a k) ∧ eI τ' a = eI τ a ∧ eJ τ' a = eJ τ a ∧ eN τ' a = eN τ a
section BRG
variable {sk sk' : Nat → Nat × Nat × Nat} {L L' : Nat} {own : Nat → Nat × Nat} {τ τ' : px_TT} {σ σ' : px_S} {fs : List (Nat × (Nat → Nat))} {gs : List (List Nat × Int64)} {ws : List (List Nat)} {n : Nat} {b : Nat → Nat} {a : Int32} {Y : px_Y}
theorem cell_agr {x : Nat} (e : sk' x = sk x) (h : agr τ τ' x) : cell sk' τ' x = cell sk τ x := by
  obtain ⟨h1, h2, h3, h4, h5, h6⟩ := h
  have hc : ∀ ci, cv τ' ci x = cv τ ci x := fun ci => by
    funext k
    unfold cv
    rw [h1, h2, h3]
  unfold cell
  rw [e, hc, h4, h5, h6]
theorem CV_M (h : CV sk L own τ fs gs ws n b a Y) (e : EX sk L sk' L') (hA : ∀ x, (x < 1726 ∨ 1815 ≤ x) → agr τ τ' x) : CV sk' L' own τ' fs gs ws n b a Y := by
  obtain ⟨hS, hR, hn, hf, hg, hw, ht, hr, hz, hnd⟩ := h
  have hE : ∀ A, A < 1726 → eN τ' A = eN τ A := fun A hA' => (hA A (Or.inl hA')).2.2.2.2.2
  have cn : ∀ {N A : Nat} {vs : List (List Nat)}, CN sk L τ N A vs → (N = 140 ∨ N = 143) → (A = 141 ∨ A = 144) → CN sk' L' τ' N A vs := fun {N A vs} w hN' hA' => CN_mv w e ((hA N (by omega)).2.2.1 0) ((hA N (by omega)).1 2) (fun i _ => congrFun (hE A (by omega)) i) (fun i p _ hp => by
    have := (hn A i p (by omega) hp).1
    exact ⟨fun k _ => (hA p (by omega)).2.1 k, (hA p (by omega)).1 3⟩)
  refine ⟨⟨by have := e.1; have := hS.1; omega, fun x hx => (e.2 x (by have := hS.1; omega)).trans (hS.2 x hx)⟩, GR_mv hR (fun x k hx => (hA x (by omega)).2.2.1 k) (fun x k hx _ => (hA x (by omega)).1 k) (hE 9 (by decide)) (hE 151 (by decide)), fun A i p hA' hp => ?_, CF_mv hf e ⟨fun x k hx _ => (hA x (by omega)).1 k, fun x k hx => (hA x (by omega)).2.2.1 k, fun x hx => (hA x (by omega)).2.2.2.1⟩, ⟨cn hg.1 (Or.inl rfl) (Or.inl rfl), fun i x hx => ?_⟩, cn hw (Or.inr rfl) (Or.inr rfl), CTp_SI ht ((hA 1 (by omega)).1 1) (hA 2 (by omega)).2.2.2.1, CVr_fx hr e (fun x k hx => (hA x (by omega)).1 k) (fun k => (hA 1696 (by omega)).2.1 k) (fun x k hx => (hA x (by omega)).2.2.1 k) (fun x hx => (hA x (by omega)).2.2.2.1) (fun x hx => hE x (by omega)) (fun d p hp => ?_), CX_W hz e ⟨⟨(hA 1700 (by omega)).1 11, hE 1701 (by decide), fun x hx => ⟨fun k _ => (hA (152 + x) (by omega)).1 k, (hA (152 + x) (by omega)).2.1 11⟩⟩, ⟨hE 149 (by decide), (hA 148 (by omega)).2.2.1 0, (hA 148 (by omega)).1 2, fun i p hp => by
      have := (hn 149 i p (Or.inr (Or.inr rfl)) hp).1
      exact ⟨(hA p (by omega)).1 3, fun k => (hA p (by omega)).2.1 k⟩⟩, (hA 147 (by omega)).1 15, hE 1693 (by decide), (hA 1711 (by omega)).1 1, (hA 1703 (by omega)).2.2.2.1⟩ (fun q hq => ⟨(hA _ (by omega)).1 15, (hA _ (by omega)).1 16⟩), hnd.1, ((hA 147 (by omega)).1 18).trans hnd.2⟩
  · rw [hE A (by omega)] at hp
    obtain ⟨w1, w2, w3⟩ := hn A i p hA' hp
    exact ⟨w1, ob_ex w2 e, w3⟩
  · rw [hE 141 (by decide), ← hg.2 i x hx]
    refine (hA _ ?_).2.1 7
    cases hq : eN τ 141 i with
    | none => exact Or.inl (by decide)
    | some p => exact Or.inr (hn 141 i p (Or.inl rfl) hq).1
  · have := (hn 149 d p (Or.inr (Or.inr rfl)) hp).1
    exact ⟨(hA p (by omega)).1 5, (hA p (by omega)).2.2.1 6⟩
end BRG
/-- what stands at the reference's cells, and at the row of one long behind them -/
def kM (i : Nat) : Nat × Nat × Nat := if i = 0 then (0, 12, 0) else if i = 88 then (1, 2, 1) else (1, (mr (mA.getD (i - 1) 0)).2.2.1, (mr (mA.getD (i - 1) 0)).2.2.2)
def SKm (sk : Nat → Nat × Nat × Nat) : Prop := ∀ i, i < 89 → sk (1726 + i) = kM i
/-- the reference's cells hold the state σ -/
def MQs (τ : px_TT) (σ : px_S) : Prop := (∀ k, fI τ 1726 k = gI σ k) ∧ (∀ k, fJ τ 1726 k = gJ σ k) ∧ (∀ k, k < 130 → 2 ≤ (mr k).1 → fN τ 1726 k = some (1726 + (mr k).2.1)) ∧ ∀ i, i < 87 → eI τ (1727 + i) = gA σ (mA.getD i 0) ∧ eJ τ (1727 + i) = gB σ (mA.getD i 0)
theorem mr_kd : ∀ k, k < 130 → ((mr k).1 = 0 ∧ cF 12 k = 0) ∨ ((mr k).1 = 1 ∧ cF 12 k = 1) ∨ (2 ≤ (mr k).1 ∧ cF 12 k = 2) := by decide +kernel
theorem mA_kd : ∀ i, i < 87 → ((mr (mA.getD i 0)).1 = 2 ∧ (mr (mA.getD i 0)).2.2.1 ≠ 2 ∧ (mr (mA.getD i 0)).2.2.1 ≤ 3) ∨ ((mr (mA.getD i 0)).1 = 3 ∧ (mr (mA.getD i 0)).2.2.1 = 2) := by decide +kernel
theorem cN_12 : cN 12 = 130 := by decide +kernel
theorem mA_ln : mA.length = 87 := by decide +kernel
section BRH
variable {sk sk' : Nat → Nat × Nat × Nat} {L L' : Nat} {own : Nat → Nat × Nat} {τ τ' : px_TT} {σ σ' : px_S}
theorem cv_M (hq : MQs τ σ) {k : Nat} (hk : k < 130) : cv τ 12 1726 k = fv 1726 σ k := by
  obtain ⟨q1, q2, q3, _⟩ := hq
  unfold cv fv
  rcases mr_kd k hk with ⟨e1, e2⟩ | ⟨e1, e2⟩ | ⟨e1, e2⟩
  · rw [if_pos e2, if_pos e1, q1]
  · rw [if_neg (by rw [e2]; decide), if_pos e2, if_neg (by rw [e1]; decide), if_pos e1, q2]
  · rw [if_neg (by rw [e2]; decide), if_neg (by rw [e2]; decide), if_neg (by omega), if_neg (by omega), q3 k hk e1]
    rfl
theorem cell_M (hk : SKm sk) (hq : MQs τ σ) {i : Nat} (hi : i < 88) : (mcs 1726 σ)[i]? = some (cell sk τ (1726 + i)) := by
  have e := hk i (by omega)
  cases i with
  | zero =>
    have e : sk 1726 = (0, 12, 0) := e
    show some (Sum.inr (12, mfs 1726 σ)) = some (cell sk τ 1726)
    unfold cell
    rw [e, if_pos rfl]
    show _ = some (Sum.inr (12, (List.range (cN 12)).map (cv τ 12 1726)))
    rw [cN_12]
    unfold mfs
    congr 3
    apply List.map_congr_left
    intro k hk'
    exact (cv_M hq (List.mem_range.mp hk')).symm
  | succ j =>
    have hj : j < 87 := by omega
    have e1 : kM (j + 1) = (1, (mr (mA.getD j 0)).2.2.1, (mr (mA.getD j 0)).2.2.2) := by
      unfold kM
      rw [if_neg (by omega), if_neg (by omega), Nat.add_sub_cancel]
    rw [e1] at e
    have h4 := hq.2.2.2 j hj
    rw [show 1727 + j = 1726 + (j + 1) by omega] at h4
    show (mA.map (arr σ))[j]? = _
    rw [List.getElem?_map, List.getElem?_eq_getElem (by rw [mA_ln]; exact hj)]
    have eg : mA[j]'(by rw [mA_ln]; exact hj) = mA.getD j 0 := by rw [List.getD_eq_getElem?_getD, List.getElem?_eq_getElem (by rw [mA_ln]; exact hj)]; rfl
    rw [eg]
    show some (arr σ (mA.getD j 0)) = _
    have kd := mA_kd j hj
    generalize mA.getD j 0 = g at *
    unfold cell arr
    rw [e, h4.1, h4.2]
    dsimp only
    rw [if_neg (show ¬ (1 = 0) by decide)]
    rcases kd with ⟨d1, d2, d3⟩ | ⟨d1, d2⟩
    · rw [if_pos d1, if_neg d2, if_pos d3]
    · rw [if_neg (by rw [d1]; decide), if_pos d2, d2]
theorem cH_M (hk : SKm sk) (hq : MQs τ σ) (hL : 1815 ≤ L) : cH sk L τ = mh 1726 (cH sk L τ) σ := by
  have e : ((cH sk L τ).drop 1726).take 88 = mcs 1726 σ := by
    apply List.ext_getElem?
    intro i
    by_cases hi : i < 88
    · rw [List.getElem?_take_of_lt hi, List.getElem?_drop, cH_at (by omega), cell_M hk hq hi]
    · rw [List.getElem?_eq_none (by rw [List.length_take]; omega), List.getElem?_eq_none (by rw [mcs_len]; omega)]
  unfold mh
  rw [← e, show (cH sk L τ).drop (1726 + 88) = ((cH sk L τ).drop 1726).drop 88 from by rw [List.drop_drop], List.take_append_drop, List.take_append_drop]
/-- the state with other contents of the reference's cells -/
def tM (τ : px_TT) (σ : px_S) : px_TT := (fun x k => if x = 1726 then gI σ k else fI τ x k, fun x k => if x = 1726 then gJ σ k else fJ τ x k, τ.2.2.1, fun x => if 1727 ≤ x ∧ x < 1814 then gA σ (mA.getD (x - 1727) 0) else eI τ x, fun x => if 1727 ≤ x ∧ x < 1814 then gB σ (mA.getD (x - 1727) 0) else eJ τ x, τ.2.2.2.2.2)
theorem agr_tM {x : Nat} (h : x < 1726 ∨ 1814 ≤ x) : agr τ (tM τ σ) x := by
  refine ⟨fun k => ?_, fun k => ?_, fun k => rfl, ?_, ?_, rfl⟩
  · show (if x = 1726 then gI σ k else fI τ x k) = _
    rw [if_neg (by omega)]
  · show (if x = 1726 then gJ σ k else fJ τ x k) = _
    rw [if_neg (by omega)]
  · show (if 1727 ≤ x ∧ x < 1814 then gA σ (mA.getD (x - 1727) 0) else eI τ x) = _
    rw [if_neg (by omega)]
  · show (if 1727 ≤ x ∧ x < 1814 then gB σ (mA.getD (x - 1727) 0) else eJ τ x) = _
    rw [if_neg (by omega)]
theorem MQs_tM (hq : MQs τ σ) : MQs (tM τ σ') σ' := by
  refine ⟨fun k => ?_, fun k => ?_, hq.2.2.1, fun i hi => ⟨?_, ?_⟩⟩
  · show (if 1726 = 1726 then gI σ' k else fI τ 1726 k) = _
    rw [if_pos rfl]
  · show (if 1726 = 1726 then gJ σ' k else fJ τ 1726 k) = _
    rw [if_pos rfl]
  · show (if 1727 ≤ 1727 + i ∧ 1727 + i < 1814 then gA σ' (mA.getD (1727 + i - 1727) 0) else eI τ (1727 + i)) = _
    rw [if_pos (by omega), Nat.add_sub_cancel_left]
  · show (if 1727 ≤ 1727 + i ∧ 1727 + i < 1814 then gB σ' (mA.getD (1727 + i - 1727) 0) else eJ τ (1727 + i)) = _
    rw [if_pos (by omega), Nat.add_sub_cancel_left]
theorem cH_tM (hk : SKm sk) (hq : MQs τ σ) (hL : 1815 ≤ L) : mh 1726 (cH sk L τ) σ' = cH sk L (tM τ σ') := by
  rw [cH_M hk (MQs_tM (σ' := σ') hq) hL]
  have h1 : ∀ x, (x < 1726 ∨ 1814 ≤ x) → (cH sk L (tM τ σ'))[x]? = (cH sk L τ)[x]? := fun x hx => by
    by_cases hxl : x < L
    · rw [cH_at hxl, cH_at hxl, cell_agr rfl (agr_tM hx)]
    · rw [List.getElem?_eq_none (by rw [cH_len]; omega), List.getElem?_eq_none (by rw [cH_len]; omega)]
  have e1 : (cH sk L (tM τ σ')).take 1726 = (cH sk L τ).take 1726 := by
    apply List.ext_getElem?
    intro i
    by_cases hi : i < 1726
    · rw [List.getElem?_take_of_lt hi, List.getElem?_take_of_lt hi, h1 i (Or.inl hi)]
    · rw [List.getElem?_eq_none (by rw [List.length_take]; omega), List.getElem?_eq_none (by rw [List.length_take]; omega)]
  have e2 : (cH sk L (tM τ σ')).drop (1726 + 88) = (cH sk L τ).drop (1726 + 88) := by
    apply List.ext_getElem?
    intro i
    rw [List.getElem?_drop, List.getElem?_drop, h1 _ (Or.inr (by omega))]
  unfold mh
  rw [e1, e2]
theorem MQs_K (hq : MQs τ σ) (h : K26 τ τ') : MQs τ' σ := by
  obtain ⟨q1, q2, q3, q4⟩ := hq
  obtain ⟨a1, a2, a3, a4, a5, a6⟩ := h 1726 (by decide) (by decide)
  refine ⟨fun k => (a1 k).trans (q1 k), fun k => (a2 k).trans (q2 k), fun k hk h2 => (a3 k).trans (q3 k hk h2), fun i hi => ?_⟩
  obtain ⟨b1, b2, b3, b4, b5, b6⟩ := h (1727 + i) (by omega) (by omega)
  exact ⟨b4.trans (q4 i hi).1, b5.trans (q4 i hi).2⟩
theorem SKm_EX (hk : SKm sk) (e : EX sk L sk' L') (hL : 1815 ≤ L) : SKm sk' := fun i hi => (e.2 _ (by omega)).trans (hk i hi)
/-- an exception's cell -/
theorem cH_ex {ci : Nat} (hc : cN ci = 0) : cH sk L τ ++ [.inr (ci, [])] = cH (skN sk L ci) (L + 1) τ ∧ EX sk L (skN sk L ci) (L + 1) := by
  have hlt : ∀ x, x < L → skN sk L ci x = sk x := fun x hx => by unfold skN; rw [if_neg (by omega)]
  refine ⟨?_, by omega, hlt⟩
  apply List.ext_getElem?
  intro i
  by_cases hi : i < L
  · rw [List.getElem?_append_left (by rw [cH_len]; exact hi), cH_at hi, cH_at (by omega), cell_agr (hlt i hi) ⟨fun _ => rfl, fun _ => rfl, fun _ => rfl, rfl, rfl, rfl⟩]
  · by_cases e : i = L
    · subst e
      rw [List.getElem?_append_right (by rw [cH_len]; omega), cH_len, Nat.sub_self, cH_at (by omega)]
      unfold cell
      rw [show skN sk i ci i = (0, ci, 0) by unfold skN; rw [if_pos rfl]]
      dsimp only
      rw [if_pos rfl, hc]
      rfl
    · rw [List.getElem?_eq_none (by rw [List.length_append, cH_len]; simp; omega), List.getElem?_eq_none (by rw [cH_len]; omega)]
end BRH
/-- room for the names of one link -/
theorem rmT_b {fs : px_FS} (hf : FSo fs) (hs : (fs.map Prod.fst).sum ≤ 4096) : rmT fs [] ≤ 170 := by
  have h1 : ∀ q, 24 * omQ fs q ≤ szQ fs q := fun q => by
    unfold omQ szQ
    cases e : obAt fs q with
    | none => exact Nat.le_refl _
    | some y =>
      show 24 * (if y.2.2.2 = true then 0 else oM y.2.2.1) ≤ y.2.1
      by_cases c : y.2.2.2 = true
      · rw [if_pos c]; omega
      · rw [if_neg c]
        obtain ⟨o, n, b, z⟩ := y
        have hz : z = false := Bool.eq_false_iff.mpr c
        subst hz
        exact oM_n (hf q o n b e).2
  have h2 : ∀ N, 24 * smN (omQ fs) N ≤ smN (szQ fs) N := fun N => by
    induction N with
    | zero => exact Nat.le_refl _
    | succ N ih =>
      rw [smN_s, smN_s]
      have := h1 N
      omega
  have h3 := h2 64
  have h4 := szQ_all (fs := fs)
  unfold rmT
  omega
