/-! the pool's strings, by their texts -/
def admT (l : List (List Nat)) (s : List Nat) : List (List Nat) := if l.any (fun w => sufB s w) = true then l else l.filter (fun w => !sufB w s) ++ [s]
def rfT (nd : List (List Nat)) (l : List (List Nat)) (s : List Nat) : List (List Nat) := if lst nd s (nd.length + 1) = 0 ∧ ¬ l.any (fun w => sufB s w) = true then l ++ [s] else l
/-- the strings of d bytes from j on -/
def stG (C : Nat → Nat) (A : Nat) : Nat → Nat → List (List Nat)
  | _, 0 => []
  | j, d + 1 => (if C (A + j) = 0 then [st C (frm C A j)] else []) ++ stG C A (j + 1) d
theorem stG_s {C : Nat → Nat} {A j d : Nat} : stG C A j (d + 1) = (if C (A + j) = 0 then [st C (frm C A j)] else []) ++ stG C A (j + 1) d := rfl
theorem stG_mem {C : Nat → Nat} {A : Nat} {w : List Nat} : ∀ {d j : Nat}, w ∈ stG C A j d ↔ ∃ i, j ≤ i ∧ i < j + d ∧ C (A + i) = 0 ∧ w = st C (frm C A i)
  | 0, j => ⟨fun q => (nomatch q), fun ⟨i, h1, h2, _⟩ => by omega⟩
  | d + 1, j => by
    rw [stG_s, List.mem_append, stG_mem]
    constructor
    · rintro (q | ⟨i, h1, h2, h3⟩)
      · split at q
        · rename_i h
          rw [List.mem_singleton] at q
          exact ⟨j, Nat.le_refl _, by omega, h, q⟩
        · exact nomatch q
      · exact ⟨i, by omega, by omega, h3⟩
    · rintro ⟨i, h1, h2, h3, h4⟩
      by_cases e : i = j
      · left
        rw [e] at h3 h4
        rw [if_pos h3, List.mem_singleton]
        exact h4
      · exact Or.inr ⟨i, by omega, by omega, h3, h4⟩
section CPT2
variable {C B : Nat → Nat} {A p : Nat}
theorem adm_T {l : List Nat} {f : Nat} : (adm C l f).map (st C) = admT (l.map (st C)) (st C f) := by
  unfold adm admT
  have e1 : (l.map (st C)).any (fun w => sufB (st C f) w) = l.any (fun w => sufB (st C f) (st C w)) := by rw [List.any_map]; rfl
  rw [e1]
  by_cases c : l.any (fun w => sufB (st C f) (st C w)) = true
  · rw [if_pos c, if_pos c]
  · rw [if_neg c, if_neg c, List.map_append, List.filter_map]
    rfl
theorem cl_T : ∀ (d j : Nat) (l : List Nat), (itr (cl1 C A) j d l).map (st C) = (stG C A j d).foldl admT (l.map (st C)) := by
  intro d
  induction d with
  | zero => intro j l; rfl
  | succ d ih =>
    intro j l
    rw [itr_s, ih, stG_s, List.foldl_append]
    congr 1
    by_cases c : C (A + j) = 0
    · have e : cl1 C A j l = adm C l (frm C A j) := by unfold cl1; rw [if_pos c]
      rw [e, adm_T, if_pos c]
      rfl
    · have e : cl1 C A j l = l := by unfold cl1; rw [if_neg c]
      rw [e, if_neg c]
      rfl
theorem peO_no {pf u : List Nat} : (peO B 0 pf u = none) ↔ ¬ (pf.map (st B)).any (fun w => sufB u w) = true := by
  rw [List.any_map, List.any_eq_true]
  constructor
  · rintro h ⟨f, h1, h2⟩
    have := (peO_some (B := B) (u := u) (l := pf) (off := 0)).mpr ⟨f, h1, h2⟩
    rw [h] at this
    cases this
  · intro h
    cases e : peO B 0 pf u with
    | none => rfl
    | some y =>
      obtain ⟨f, h1, h2⟩ := (peO_some (B := B) (u := u) (l := pf) (off := 0)).mp (by rw [e]; rfl)
      exact absurd ⟨f, h1, h2⟩ h
theorem fp_T {nd : List (List Nat)} : ∀ (d j : Nat) (pf : List Nat), (itr (fp1 B nd p) j d pf).map (st B) = (stG B p j d).foldl (rfT nd) (pf.map (st B)) := by
  intro d
  induction d with
  | zero => intro j l; rfl
  | succ d ih =>
    intro j pf
    rw [itr_s, ih, stG_s, List.foldl_append]
    congr 1
    by_cases c : B (p + j) = 0
    · rw [if_pos c]
      show _ = rfT nd (pf.map (st B)) (st B (frm B p j))
      unfold rfT
      by_cases c2 : lst nd (st B (frm B p j)) (nd.length + 1) = 0 ∧ peO B 0 pf (st B (frm B p j)) = none
      · have e : fp1 B nd p j pf = pf ++ [frm B p j] := by unfold fp1; rw [if_pos ⟨c, c2⟩]
        rw [e, if_pos ⟨c2.1, peO_no.mp c2.2⟩, List.map_append]
        rfl
      · have e : fp1 B nd p j pf = pf := by unfold fp1; rw [if_neg (fun q => c2 q.2)]
        rw [e, if_neg (fun q => c2 ⟨q.1, peO_no.mpr q.2⟩)]
    · have e : fp1 B nd p j pf = pf := by unfold fp1; rw [if_neg (fun q => c q.1)]
      rw [e, if_neg c]
      rfl
theorem frm_rel : ∀ (j : Nat), (∀ i, i < j → C (A + i) = B (p + i)) → ∃ k, k ≤ j ∧ frm C A j = A + k ∧ frm B p j = p + k
  | 0, _ => ⟨0, Nat.le_refl _, rfl, rfl⟩
  | j + 1, h => by
    rw [frm_s, frm_s, h j (by omega)]
    by_cases c : B (p + j) = 0
    · rw [if_pos c, if_pos c]; exact ⟨j + 1, Nat.le_refl _, rfl, rfl⟩
    · rw [if_neg c, if_neg c]
      obtain ⟨k, h1, h2, h3⟩ := frm_rel j (fun i hi => h i (by omega))
      exact ⟨k, by omega, h2, h3⟩
theorem isSt_text {f e f' e' : Nat} (h : isSt C f e) (h' : isSt B f' e') (hl : e - f = e' - f') (hb : ∀ k, f + k < e → C (f + k) = B (f' + k)) : st C f = st B f' := by
  have l1 := isSt_len h
  have l2 := isSt_len h'
  have h1 := h.2.1
  have h2 := h'.2.1
  refine List.ext_getElem? (fun d => ?_)
  by_cases hd : f + d < e
  · rw [isSt_get h hd, isSt_get h' (by omega), hb d hd]
  · rw [List.getElem?_eq_none (by omega), List.getElem?_eq_none (by omega)]
theorem stG_rel {Z : Nat} (hA : A + Z ≤ 65536) (hp : p + Z ≤ 65536) (hb : ∀ i, i < Z → C (A + i) = B (p + i)) : ∀ (d j : Nat), j + d = Z → stG C A j d = stG B p j d := by
  intro d
  induction d with
  | zero => intro j _; rfl
  | succ d ih =>
    intro j hj
    rw [stG_s, stG_s, ih (j + 1) (by omega), hb j (by omega)]
    congr 1
    by_cases c : B (p + j) = 0
    · rw [if_pos c, if_pos c]
      obtain ⟨k, k1, k2, k3⟩ := frm_rel (C := C) (B := B) (A := A) (p := p) j (fun i hi => hb i (by omega))
      have s1 := frm_st (C := C) (A := A) (j := j) (by omega) (by rw [hb j (by omega)]; exact c)
      have s2 := frm_st (C := B) (A := p) (j := j) (by omega) c
      rw [isSt_text s1 s2 (by rw [k2, k3]; omega) (fun i hi => by
        rw [k2] at hi ⊢
        rw [k3, Nat.add_assoc, Nat.add_assoc]
        exact hb (k + i) (by omega))]
    · rw [if_neg c, if_neg c]
end CPT2
/-! admitting one after the other, and taking the longest alone -/
section CPT3
variable {S : List (List Nat)} {nd : List (List Nat)}
theorem any_suf {l : List (List Nat)} {s : List Nat} : l.any (fun w => sufB s w) = true ↔ ∃ w, w ∈ l ∧ sufB s w = true := List.any_eq_true
def mxl (S : List (List Nat)) (s : List Nat) : Prop := ∀ w, w ∈ S → sufB s w = true → w = s
theorem pool_eq (hm : ∀ s, s ∈ S → (lst nd s (nd.length + 1) = 0 ↔ mxl S s)) : S.foldl admT [] = S.foldl (rfT nd) [] := by
  have key : ∀ (R : List (List Nat)) (l r : List (List Nat)), (∀ s, s ∈ R → s ∈ S) → (∀ s, s ∈ l → s ∈ S) → r = l.filter (fun s => decide (lst nd s (nd.length + 1) = 0)) → R.foldl (rfT nd) r = (R.foldl admT l).filter (fun s => decide (lst nd s (nd.length + 1) = 0)) ∧ (∀ s, s ∈ R.foldl admT l → s ∈ S) := by
    intro R
    induction R with
    | nil => intro l r _ hl hr; exact ⟨hr, hl⟩
    | cons s R ih =>
      intro l r hR hl hr
      have hsS := hR s (List.mem_cons_self ..)
      show R.foldl (rfT nd) (rfT nd r s) = (R.foldl admT (admT l s)).filter _ ∧ ∀ z, z ∈ R.foldl admT (admT l s) → z ∈ S
      have hl2 : ∀ z, z ∈ admT l s → z ∈ S := fun z hz => by
        unfold admT at hz
        split at hz
        · exact hl z hz
        · rcases List.mem_append.mp hz with q | q
          · exact hl z (List.mem_filter.mp q).1
          · rw [List.mem_singleton] at q; rw [q]; exact hsS
      refine ih (admT l s) (rfT nd r s) (fun z hz => hR z (List.mem_cons_of_mem _ hz)) hl2 ?_
      unfold admT rfT
      by_cases ca : l.any (fun w => sufB s w) = true
      · rw [if_pos ca]
        by_cases cm : lst nd s (nd.length + 1) = 0
        · obtain ⟨w, w1, w2⟩ := any_suf.mp ca
          have ew := (hm s hsS).mp cm w (hl w w1) w2
          rw [if_neg (fun q => q.2 (any_suf.mpr ⟨s, by rw [hr]; exact List.mem_filter.mpr ⟨by rw [← ew]; exact w1, decide_eq_true cm⟩, sufB_refl⟩))]
          exact hr
        · rw [if_neg (fun q => cm q.1)]; exact hr
      · rw [if_neg ca, List.filter_append]
        have e1 : (l.filter (fun w => !sufB w s)).filter (fun s => decide (lst nd s (nd.length + 1) = 0)) = r := by
          rw [hr, List.filter_filter]
          refine List.filter_congr (fun w hw => ?_)
          by_cases cm : lst nd w (nd.length + 1) = 0
          · rw [decide_eq_true cm, Bool.true_and]
            cases e : sufB w s with
            | false => rfl
            | true =>
              have ew := (hm w (hl w hw)).mp cm s hsS e
              exact absurd (any_suf.mpr ⟨w, hw, by rw [ew]; exact sufB_refl⟩) ca
          · rw [decide_eq_false cm, Bool.false_and]
        rw [e1]
        by_cases cm : lst nd s (nd.length + 1) = 0
        · rw [if_pos ⟨cm, fun q => by
            obtain ⟨w, w1, w2⟩ := any_suf.mp q
            rw [hr] at w1
            exact ca (any_suf.mpr ⟨w, (List.mem_filter.mp w1).1, w2⟩)⟩, List.filter_cons_of_pos (by exact decide_eq_true cm), List.filter_nil]
        · rw [if_neg (fun q => cm q.1), List.filter_cons_of_neg (by rw [decide_eq_false cm]; decide), List.filter_nil, List.append_nil]
  -- every string is an end of one that is left, and those left are no ends of one another
  have cov : ∀ (R l : List (List Nat)), (∀ a, a ∈ l → ∀ b, b ∈ l → sufB a b = true → b = a) → (∀ a, a ∈ R.foldl admT l → ∀ b, b ∈ R.foldl admT l → sufB a b = true → b = a) ∧ (∀ a, (a ∈ l ∨ a ∈ R) → ∃ w, w ∈ R.foldl admT l ∧ sufB a w = true) := by
    intro R
    induction R with
    | nil => intro l hl; exact ⟨hl, fun a ha => ⟨a, ha.elim id (fun q => nomatch q), sufB_refl⟩⟩
    | cons s R ih =>
      intro l hl
      have hl2 : ∀ a, a ∈ admT l s → ∀ b, b ∈ admT l s → sufB a b = true → b = a := by
        unfold admT
        by_cases ca : l.any (fun w => sufB s w) = true
        · rw [if_pos ca]; exact hl
        · rw [if_neg ca]
          intro a ha b hb hab
          rcases List.mem_append.mp ha with qa | qa
          · rcases List.mem_append.mp hb with qb | qb
            · exact hl a (List.mem_filter.mp qa).1 b (List.mem_filter.mp qb).1 hab
            · rw [List.mem_singleton] at qb
              rw [qb] at hab
              have := (List.mem_filter.mp qa).2
              rw [hab] at this
              cases this
          · rw [List.mem_singleton] at qa
            rcases List.mem_append.mp hb with qb | qb
            · rw [qa] at hab
              exact absurd (any_suf.mpr ⟨b, (List.mem_filter.mp qb).1, hab⟩) ca
            · rw [List.mem_singleton] at qb
              rw [qa, qb]
      obtain ⟨i1, i2⟩ := ih (admT l s) hl2
      refine ⟨i1, fun a ha => ?_⟩
      have up : ∀ z, z ∈ admT l s → sufB a z = true → ∃ w, w ∈ R.foldl admT (admT l s) ∧ sufB a w = true := fun z hz hz2 => by
        obtain ⟨w, w1, w2⟩ := i2 z (Or.inl hz)
        exact ⟨w, w1, sufB_tr hz2 w2⟩
      have hs : ∃ z, z ∈ admT l s ∧ sufB s z = true := by
        unfold admT
        by_cases ca : l.any (fun w => sufB s w) = true
        · rw [if_pos ca]; exact any_suf.mp ca
        · rw [if_neg ca]; exact ⟨s, List.mem_append.mpr (Or.inr (List.mem_singleton.mpr rfl)), sufB_refl⟩
      rcases ha with ha | ha
      · by_cases cz : a ∈ admT l s
        · exact up a cz sufB_refl
        · have has : sufB a s = true := by
            unfold admT at cz
            by_cases ca : l.any (fun w => sufB s w) = true
            · rw [if_pos ca] at cz; exact absurd ha cz
            · rw [if_neg ca] at cz
              cases e : sufB a s with
              | true => rfl
              | false => exact absurd (List.mem_append.mpr (Or.inl (List.mem_filter.mpr ⟨ha, by rw [e]; rfl⟩))) cz
          obtain ⟨z, z1, z2⟩ := hs
          exact up z z1 (sufB_tr has z2)
      · rcases List.mem_cons.mp ha with e | ha
        · rw [e] at up ⊢
          obtain ⟨z, z1, z2⟩ := hs
          exact up z z1 z2
        · exact i2 a (Or.inr ha)
  obtain ⟨k1, k2⟩ := key S [] [] (fun s h => h) (fun s h => nomatch h) rfl
  obtain ⟨c1, c2⟩ := cov S [] (fun a ha => nomatch ha)
  rw [k1]
  refine (List.filter_eq_self.mpr (fun s hs => decide_eq_true ((hm s (k2 s hs)).mpr (fun w hw hsw => ?_)))).symm
  obtain ⟨z, z1, z2⟩ := c2 w (Or.inr hw)
  have ez := c1 s hs z z1 (sufB_tr hsw z2)
  rw [ez] at z2
  have h1 := sufB_iff.mp hsw
  have h2 := sufB_iff.mp z2
  have e1 := h1.2
  rw [show w.length - s.length = 0 by omega, List.drop_zero] at e1
  exact e1.symm
end CPT3
