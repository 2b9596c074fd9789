/-! a heap that grows -/
def szk (s : Nat × Nat × Nat) : Nat := if s.1 = 0 then pg_in s.2.1 else s.2.2
def smk (sk : Nat → Nat × Nat × Nat) (L : Nat) : Nat := ((List.range L).map (fun a => szk (sk a))).sum
/-- room for k more objects -/
def RMk (sk : Nat → Nat × Nat × Nat) (L k : Nat) : Prop := L + k ≤ pg_MC ∧ smk sk L + 18 * k ≤ pg_MS
def skN (sk : Nat → Nat × Nat × Nat) (L ci : Nat) : Nat → Nat × Nat × Nat := fun a => if a = L then (0, ci, 0) else sk a
/-- all fields of the place L empty -/
def nw (τ : px_TT) (L : Nat) : px_TT := (fun a k => if a = L then 0 else τ.1 a k, fun a k => if a = L then 0 else τ.2.1 a k, fun a k => if a = L then none else τ.2.2.1 a k, τ.2.2.2)
/-- more places, the old ones as they were -/
def EX (sk : Nat → Nat × Nat × Nat) (L : Nat) (sk' : Nat → Nat × Nat × Nat) (L' : Nat) : Prop := L ≤ L' ∧ ∀ a, a < L → sk' a = sk a
section GRW
variable {sk sk' : Nat → Nat × Nat × Nat} {L L' : Nat} {τ τ' : px_TT}
theorem cell_sz (a : Nat) : px_sz (cell sk τ a) = szk (sk a) := by
  unfold cell szk
  split
  · rfl
  · split
    · rfl
    · split
      · rfl
      · rfl
theorem sum_cH : px_sum (cH sk L τ) = smk sk L := by
  unfold px_sum cH smk
  rw [List.map_map]
  congr 1
  apply List.map_congr_left
  intro a _
  exact cell_sz a
theorem nw_I {a k : Nat} (h : a ≠ L) : fI (nw τ L) a k = fI τ a k := if_neg h
theorem nw_J {a k : Nat} (h : a ≠ L) : fJ (nw τ L) a k = fJ τ a k := if_neg h
theorem nw_N {a k : Nat} (h : a ≠ L) : fN (nw τ L) a k = fN τ a k := if_neg h
theorem skN_cell {a ci : Nat} (h : a ≠ L) : cell (skN sk L ci) (nw τ L) a = cell sk τ a := by
  have e : skN sk L ci a = sk a := if_neg h
  unfold cell
  rw [e]
  have e2 : cv (nw τ L) (sk a).2.1 a = cv τ (sk a).2.1 a := by
    funext k
    unfold cv
    rw [nw_I h, nw_J h, nw_N h]
  rw [e2]
  rfl
theorem cH_new (ci : Nat) : cH (skN sk L ci) (L + 1) (nw τ L) = cH sk L τ ++ [.inr (ci, (List.range (cN ci)).map (cv (nw τ L) ci L))] := by
  unfold cH
  rw [List.range_succ, List.map_append]
  congr 1
  · apply List.map_congr_left
    intro a ha
    exact skN_cell (Nat.ne_of_lt (List.mem_range.mp ha))
  · have e : skN sk L ci L = (0, ci, 0) := if_pos rfl
    show [cell (skN sk L ci) (nw τ L) L] = _
    unfold cell
    rw [e]
    rfl
theorem smk_new (ci : Nat) : smk (skN sk L ci) (L + 1) = smk sk L + pg_in ci := by
  unfold smk
  rw [List.range_succ, List.map_append, List.sum_append]
  congr 1
  · congr 1
    apply List.map_congr_left
    intro a ha
    have e : skN sk L ci a = sk a := if_neg (Nat.ne_of_lt (List.mem_range.mp ha))
    rw [e]
  · have e : skN sk L ci L = (0, ci, 0) := if_pos rfl
    show [szk (skN sk L ci L)].sum = _
    rw [e]
    exact Nat.add_zero _
theorem cH_len : (cH sk L τ).length = L := by
  unfold cH
  rw [List.length_map, List.length_range]
theorem nf5 : ∀ k, k < 18 → defaultValue (pg_ftp 5 k) = (if cF 5 k = 0 then Value.int 0 else if cF 5 k = 1 then Value.long 0 else va_rf none) := by decide +kernel
theorem c_new5 {k : Nat} (h : RMk sk L (k + 1)) : xnew (cH sk L τ) 5 = some (L, cH (skN sk L 5) (L + 1) (nw τ L)) ∧ RMk (skN sk L 5) (L + 1) k ∧ EX sk L (skN sk L 5) (L + 1) ∧ ob (skN sk L 5) (L + 1) 5 L := by
  refine ⟨?_, ⟨?_, ?_⟩, ⟨Nat.le_succ _, fun a ha => if_neg (Nat.ne_of_lt ha)⟩, ⟨if_pos rfl, Nat.lt_succ_self _⟩⟩
  · unfold xnew
    have e : pg_cl[5]? = some (pg_cn 5, pg_T 5, 18) := rfl
    have hc : (cH sk L τ).length < pg_MC ∧ px_sum (cH sk L τ) + pg_in 5 ≤ pg_MS := by
      rw [cH_len, sum_cH, show pg_in 5 = 18 from rfl]
      exact ⟨by have := h.1; omega, by have := h.2; omega⟩
    rw [e]
    show (if (cH sk L τ).length < pg_MC ∧ px_sum (cH sk L τ) + pg_in 5 ≤ pg_MS then some ((cH sk L τ).length, cH sk L τ ++ [.inr (5, px_nf 5 18)]) else none) = _
    rw [if_pos hc, cH_len, cH_new]
    have e3 : px_nf 5 18 = (List.range (cN 5)).map (cv (nw τ L) 5 L) := by
      unfold px_nf
      rw [show cN 5 = 18 from rfl]
      apply List.map_congr_left
      intro k hk
      rw [nf5 k (List.mem_range.mp hk)]
      unfold cv
      rw [show fI (nw τ L) L k = 0 from if_pos rfl, show fJ (nw τ L) L k = 0 from if_pos rfl, show fN (nw τ L) L k = none from if_pos rfl]
    rw [e3]
  · have := h.1; omega
  · have := h.2
    rw [smk_new, show pg_in 5 = 18 from rfl]
    omega
theorem ob_ex {ci a : Nat} (h : ob sk L ci a) (e : EX sk L sk' L') : ob sk' L' ci a := ⟨(e.2 a h.2).trans h.1, Nat.lt_of_lt_of_le h.2 e.1⟩
theorem ar_ex {t n a : Nat} (h : ar sk L t n a) (e : EX sk L sk' L') : ar sk' L' t n a := ⟨(e.2 a h.2).trans h.1, Nat.lt_of_lt_of_le h.2 e.1⟩
theorem GS_ex (h : GS sk L) (e : EX sk L sk' L') : GS sk' L' := ⟨Nat.le_trans h.1 e.1, fun a ha => (e.2 a (Nat.lt_of_lt_of_le ha (Nat.le_trans (by decide) h.1))).trans (h.2 a ha)⟩
theorem EX_refl : EX sk L sk L := ⟨Nat.le_refl _, fun _ _ => rfl⟩
/-- the places below N as they were -/
def SM (N : Nat) (τ τ' : px_TT) : Prop := (∀ a k, a < N → fI τ' a k = fI τ a k) ∧ (∀ a k, a < N → fJ τ' a k = fJ τ a k) ∧ (∀ a k, a < N → fN τ' a k = fN τ a k) ∧ (∀ a, a < N → eI τ' a = eI τ a) ∧ (∀ a, a < N → eJ τ' a = eJ τ a) ∧ (∀ a, a < N → eN τ' a = eN τ a)
theorem SM_refl {N : Nat} : SM N τ τ := ⟨fun _ _ _ => rfl, fun _ _ _ => rfl, fun _ _ _ => rfl, fun _ _ => rfl, fun _ _ => rfl, fun _ _ => rfl⟩
theorem SM_trans {N : Nat} {τ1 : px_TT} (h : SM N τ τ1) (g : SM N τ1 τ') : SM N τ τ' := ⟨fun a k x => (g.1 a k x).trans (h.1 a k x), fun a k x => (g.2.1 a k x).trans (h.2.1 a k x), fun a k x => (g.2.2.1 a k x).trans (h.2.2.1 a k x), fun a x => (g.2.2.2.1 a x).trans (h.2.2.2.1 a x), fun a x => (g.2.2.2.2.1 a x).trans (h.2.2.2.2.1 a x), fun a x => (g.2.2.2.2.2 a x).trans (h.2.2.2.2.2 a x)⟩
theorem SM_le {N M : Nat} (h : SM N τ τ') (hM : M ≤ N) : SM M τ τ' := ⟨fun a k x => h.1 a k (by omega), fun a k x => h.2.1 a k (by omega), fun a k x => h.2.2.1 a k (by omega), fun a x => h.2.2.2.1 a (by omega), fun a x => h.2.2.2.2.1 a (by omega), fun a x => h.2.2.2.2.2 a (by omega)⟩
theorem CTp_sm {n : Nat} {b : Nat → Nat} (h : CTp τ n b) (s : SM 3 τ τ') : CTp τ' n b := by
  unfold CTp at h ⊢
  rw [s.1 1 1 (by decide), s.2.2.2.1 2 (by decide)]
  exact h
/-- the files' places as they were -/
def SF (τ τ' : px_TT) : Prop := (∀ a k, (a = 0 ∨ (7 ≤ a ∧ a < 140)) → k < 15 → fI τ' a k = fI τ a k) ∧ (∀ a k, (7 ≤ a ∧ a < 140) → fN τ' a k = fN τ a k) ∧ (∀ a, (7 ≤ a ∧ a < 140) → eI τ' a = eI τ a)
theorem cD_mv {q g o m : Nat} {S : Nat → Int32} (h : cD sk L τ q g o m S) (e : EX sk L sk' L') (s : SF τ τ') (hq : 7 ≤ q ∧ q < 140) (hg : 7 ≤ g ∧ g < 140) : cD sk' L' τ' q g o m S := by
  obtain ⟨⟨⟨⟨⟨o1, o2, o3, o4, o5, o6, o7, o8, o9, o10⟩, r2, r3, r4, r5⟩, g2, g3, g4, g5⟩, ⟨y1, y2, y3⟩, w⟩, st, er⟩ := h
  have hI : ∀ i, i < 15 → fI τ' q i = fI τ q i := fun i h => s.1 q i (Or.inr hq) h
  refine ⟨⟨⟨⟨⟨ob_ex o1 e, (s.2.1 q 0 hq).trans o2, ob_ex o3 e, (s.2.1 7 0 (by omega)).trans o4, ar_ex o5 e, (s.2.2 8 (by omega)).trans o6, (hI 5 (by decide)).trans o7, (hI 6 (by decide)).trans o8, o9, o10⟩, r2, r3, (hI 7 (by decide)).trans r4, (hI 8 (by decide)).trans r5⟩, (s.2.1 q 3 hq).trans g2, ar_ex g3 e, g4, ?_⟩, ⟨(hI 9 (by decide)).trans y1, (hI 11 (by decide)).trans y2, ?_⟩, w⟩, ?_, er⟩
  · rw [s.2.2 g hg]; exact g5
  · rw [hI 10 (by decide), hI 12 (by decide), hI 13 (by decide)]; exact y3
  · rw [hI 14 (by decide)]; exact st
theorem mD_mv {f o : Nat} {ar : Bool} {S : Nat → Int32} (hf : f < 8) (e : EX sk L sk' L') (s : SF τ τ') : ∀ (l : List (Nat × Nat × Bool)) (k : Nat), k + l.length ≤ 8 → mD sk L τ f o ar S k l → mD sk' L' τ' f o ar S k l
  | [], k, hk, h => fun j h1 h2 => by rw [s.1 _ _ (by omega) (by decide)]; exact h j h1 h2
  | x :: l, k, hk, h => by
    rw [List.length_cons] at hk
    unfold mD at h ⊢
    have hI : ∀ i, i < 15 → fI τ' (10 + 2 * (8 * f + k)) i = fI τ (10 + 2 * (8 * f + k)) i := fun i h => s.1 _ _ (by omega) h
    refine ⟨⟨(hI 4 (by decide)).trans h.1.1, (hI 5 (by decide)).trans h.1.2.1, (hI 6 (by decide)).trans h.1.2.2.1, fun hx => ?_⟩, mD_mv hf e s l (k + 1) (by omega) h.2⟩
    exact cD_mv (h.1.2.2.2 hx) e s (by omega) (by omega)
theorem CF_mv {fs : List (Nat × (Nat → Nat))} (h : CF sk L τ fs) (e : EX sk L sk' L') (s : SF τ τ') : CF sk' L' τ' fs := by
  obtain ⟨c1, c2, c3, c4, c5, c6, c7⟩ := h
  have h8 := s.2.2 8 (by omega)
  refine ⟨(s.1 0 6 (by omega) (by decide)).trans c1, c2, by rw [h8]; exact c3, (s.1 7 1 (by omega) (by decide)).trans c4, by rw [s.2.2 138 (by omega)]; exact c5, ?_, ?_⟩
  · intro f x hx
    have hf : f < fs.length := (List.getElem?_eq_some_iff.mp hx).1
    obtain ⟨h1, h2, h3, l, h4, h5⟩ := c6 f x hx
    have hl := fMem_le h4
    exact ⟨h1, by rw [h8]; exact h2, h3, l, h4, by rw [h8]; exact mD_mv (by omega) e s l 0 (by omega) h5⟩
  · intro f j a1 a2 a3
    rw [s.1 _ _ (by omega) (by decide)]
    exact c7 f j a1 a2 a3
/-- what GR speaks of has not changed -/
theorem GR_mv (h : GR τ) (hN : ∀ a k, a < 1726 → fN τ' a k = fN τ a k) (hI : ∀ a k, a < 138 → k < 3 → fI τ' a k = fI τ a k) (h9 : eN τ' 9 = eN τ 9) (h151 : eN τ' 151 = eN τ 151) : GR τ' := by
  have hg : ∀ x, x ∈ grl → x.1 < 1726 := by decide +kernel
  refine ⟨fun x hx => (hN _ _ (hg x hx)).trans (h.1 x hx), fun i hi => ?_, ?_⟩
  · obtain ⟨a1, a2, a3, a4, a5⟩ := h.2.1 i hi
    exact ⟨(hN _ _ (by omega)).trans a1, (hN _ _ (by omega)).trans a2, by rw [h9]; exact a3, (hI _ _ (by omega) (by decide)).trans a4, (hI _ _ (by omega) (by decide)).trans a5⟩
  · rw [h151]; exact h.2.2
end GRW
