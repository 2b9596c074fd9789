/-! gather of the class: what is laid out is what the document lays out -/
def sC (C : Nat → Nat) (tb : Nat → Nat → Nat) (cA : Nat → Nat) (l : List Nat) (x : Nat) : List Nat := if sS tb x = true then itr (cl1 C (cA x)) 0 (zS tb x) l else l
def cg1 (ST : Nat → Bool) (tb : Nat → Nat → Nat) (g x : Nat) (l : List Nat) : List Nat := if ST x = true ∧ oG (tb (x / 24)) (x % 24) = g then l ++ [x] else l
section CGB
variable {C : Nat → Nat} {ST : Nat → Bool} {tb : Nat → Nat → Nat} {cA : Nat → Nat} {T : Nat} {sy : Nat → Nat → Bool}
theorem cgS_y {g x : Nat} {p : List Nat × List Nat} (h : ST x = true ∧ oG (tb (x / 24)) (x % 24) = g) : cgS C ST tb cA g x p = (p.1 ++ [x], sC C tb cA p.2 x) := by
  unfold cgS sC
  rw [if_pos h]
theorem cgS_n {g x : Nat} {p : List Nat × List Nat} (h : ¬ (ST x = true ∧ oG (tb (x / 24)) (x % 24) = g)) : cgS C ST tb cA g x p = p := by
  unfold cgS
  rw [if_neg h]
theorem fold_2 {f : List Nat → Nat → List Nat} {q r : List Nat} {i : Nat} (h : r = q.foldl f []) : f r i = (q ++ [i]).foldl f [] := by
  rw [List.foldl_append, ← h]
  rfl
theorem cgS_1 {g : Nat} : ∀ (d i : Nat) (p : List Nat × List Nat), (itr (cgS C ST tb cA g) i d p).1 = itr (cg1 ST tb g) i d p.1 := by
  intro d
  induction d with
  | zero => intro i p; rfl
  | succ d ih =>
    intro i p
    rw [itr_s, itr_s, ih]
    by_cases h : ST i = true ∧ oG (tb (i / 24)) (i % 24) = g
    · have e : cg1 ST tb g i p.1 = p.1 ++ [i] := by unfold cg1; rw [if_pos h]
      rw [cgS_y h, e]
    · have e : cg1 ST tb g i p.1 = p.1 := by unfold cg1; rw [if_neg h]
      rw [cgS_n h, e]
theorem cgS_2 {g : Nat} : ∀ (d i : Nat) (p : List Nat × List Nat), p.2 = p.1.foldl (sC C tb cA) [] → (itr (cgS C ST tb cA g) i d p).2 = (itr (cgS C ST tb cA g) i d p).1.foldl (sC C tb cA) [] := by
  intro d
  induction d with
  | zero => intro i p h; exact h
  | succ d ih =>
    intro i p h
    rw [itr_s]
    refine ih (i + 1) _ ?_
    by_cases hc : ST i = true ∧ oG (tb (i / 24)) (i % 24) = g
    · rw [cgS_y hc]
      exact fold_2 h
    · rw [cgS_n hc]; exact h
theorem itr_blk {α : Type} {h : Nat → α → α} : ∀ (T t : Nat) (l : α), itr h (24 * t) (24 * T) l = itr (fun t l => itr (fun i => h (24 * t + i)) 0 24 l) t T l := by
  have hs : ∀ (c a b : Nat) (l : α), itr h (a + b) c l = itr (fun i => h (a + i)) b c l := by
    intro c
    induction c with
    | zero => intro a b l; rfl
    | succ c ih => intro a b l; rw [itr_s, itr_s, ← ih a (b + 1)]; rfl
  intro T
  induction T with
  | zero => intro t l; rfl
  | succ T ih =>
    intro t l
    rw [itr_s, show 24 * (T + 1) = 24 + 24 * T by omega, itr_add, show 24 * t + 24 = 24 * (t + 1) by omega, ih, ← hs 24 (24 * t) 0]
    rfl
theorem itr_congr {α : Type} {g h : Nat → α → α} : ∀ (c i : Nat) (s : α), (∀ j, i ≤ j → j < i + c → ∀ s, g j s = h j s) → itr g i c s = itr h i c s := by
  intro c
  induction c with
  | zero => intro i s _; rfl
  | succ c ih =>
    intro i s e
    rw [itr_s, itr_s, e i (Nat.le_refl _) (by omega), ih (i + 1) _ (fun j h1 h2 s => e j (by omega) (by omega) s)]
theorem cg_lay {g t : Nat} (h1 : 1 ≤ oS (tb t)) (h24 : oS (tb t) ≤ 24) (hs : ∀ i, 1 ≤ i → i < oS (tb t) → ST (24 * t + i) = sy t i) (hno : ∀ i, i < 24 → (i = 0 ∨ oS (tb t) ≤ i) → ST (24 * t + i) = false) (l : List Nat) : itr (fun i => cg1 ST tb g (24 * t + i)) 0 24 l = lay2 tb sy g t l := by
  have hid : ∀ j, j < 24 → (j = 0 ∨ oS (tb t) ≤ j) → ∀ l, cg1 ST tb g (24 * t + j) l = l := fun j hj hz l => by
    unfold cg1
    rw [if_neg (fun q => by rw [hno j hj hz] at q; exact nomatch q.1)]
  unfold lay2
  rw [show (24 : Nat) = 1 + ((oS (tb t) - 1) + (24 - oS (tb t))) by omega, itr_add, itr_add]
  show itr (fun i => cg1 ST tb g ((1 + ((oS (tb t) - 1) + (24 - oS (tb t)))) * t + i)) (0 + 1 + (oS (tb t) - 1)) (24 - oS (tb t)) (itr (fun i => cg1 ST tb g ((1 + ((oS (tb t) - 1) + (24 - oS (tb t)))) * t + i)) (0 + 1) (oS (tb t) - 1) (cg1 ST tb g ((1 + ((oS (tb t) - 1) + (24 - oS (tb t)))) * t + 0) l)) = _
  rw [show 1 + ((oS (tb t) - 1) + (24 - oS (tb t))) = 24 by omega, hid 0 (by decide) (Or.inl rfl)]
  rw [itr_idr (24 - oS (tb t)) _ (fun j j1 j2 => hid j (by omega) (Or.inr (by omega)) _)]
  refine itr_congr _ _ _ (fun j j1 j2 s => ?_)
  unfold cg1 lay3
  rw [show (24 * t + j) / 24 = t by omega, show (24 * t + j) % 24 = j by omega, hs j (by omega) (by omega)]
theorem cg_layL (h1 : ∀ t, t < T → 1 ≤ oS (tb t) ∧ oS (tb t) ≤ 24) (hs : ∀ t, t < T → ∀ i, 1 ≤ i → i < oS (tb t) → ST (24 * t + i) = sy t i) (hno : ∀ t, t < T → ∀ i, i < 24 → (i = 0 ∨ oS (tb t) ≤ i) → ST (24 * t + i) = false) : (itr (fun u p => itr (cgS C ST tb cA (gOf u)) 0 (24 * T) p) 0 6 ([], [])).1 = layL T tb sy ∧ (itr (fun u p => itr (cgS C ST tb cA (gOf u)) 0 (24 * T) p) 0 6 ([], [])).2 = (layL T tb sy).foldl (sC C tb cA) [] := by
  have e1 : ∀ (d u : Nat) (p : List Nat × List Nat), (itr (fun u p => itr (cgS C ST tb cA (gOf u)) 0 (24 * T) p) u d p).1 = itr (lay1 T tb sy) u d p.1 := by
    intro d
    induction d with
    | zero => intro u p; rfl
    | succ d ih =>
      intro u p
      rw [itr_s, itr_s, ih, cgS_1]
      congr 1
      have := itr_blk (h := cg1 ST tb (gOf u)) T 0 p.1
      rw [Nat.mul_zero] at this
      rw [this]
      unfold lay1
      exact itr_congr _ _ _ (fun t _ ht l => cg_lay (h1 t (by omega)).1 (h1 t (by omega)).2 (hs t (by omega)) (hno t (by omega)) l)
  have e2 : ∀ (d u : Nat) (p : List Nat × List Nat), p.2 = p.1.foldl (sC C tb cA) [] → (itr (fun u p => itr (cgS C ST tb cA (gOf u)) 0 (24 * T) p) u d p).2 = (itr (fun u p => itr (cgS C ST tb cA (gOf u)) 0 (24 * T) p) u d p).1.foldl (sC C tb cA) [] := by
    intro d
    induction d with
    | zero => intro u p h; exact h
    | succ d ih => intro u p h; rw [itr_s]; exact ih _ _ (cgS_2 _ _ _ h)
  have a1 := e1 6 0 ([], [])
  have a2 := e2 6 0 ([], []) rfl
  refine ⟨a1, ?_⟩
  rw [a2, a1]
  rfl
end CGB
section CGC
variable {F : Nat} {c : px_CT} {sk : Nat → Nat × Nat × Nat} {L : Nat} {τ : px_TT} {own : Nat → Nat × Nat} {fs : px_FS} {s : px_TK} {xs : px_NL} {ST rn : Nat → Bool} {C : Nat → Nat} {rc : Bool} {R : Nat → Bool}
/-- what stays, as the document says it -/
def STr (fs : px_FS) (s : px_TK) (rc : Bool) (R ST : Nat → Bool) : Prop := ∀ x, x < 24 * s.2.2.1.length → ST x = (kpB (tB fs s.2.2.1 (x / 24)) (x % 24) && (!s.2.1.1 x && (!rc || R x)))
theorem STr_k (h : STr fs s rc R ST) : STk fs s ST := fun x hx hs => by
  rw [h x hx, Bool.and_eq_true, Bool.and_eq_true] at hs
  refine ⟨hs.1, ?_⟩
  cases e : s.2.1.1 x with
  | false => rfl
  | true => rw [e] at hs; exact nomatch hs.2.1
theorem k_gather (hF : 65536 < F) (hc : KT c) (hsum : off fs fs.length ≤ 32768) (h : TKe sk L own τ fs s xs ST rn) (hr : STr fs s rc R ST) (hb : CB τ C) : ∃ τ', f_Layout_gather F c 1700 (cH sk L τ) = some ((), cH sk L τ') ∧ COr τ' (layL s.2.2.1.length (tB fs s.2.2.1) (sta (tB fs s.2.2.1) s.2.1.1 rc R)) ∧ CPl τ' C ((layL s.2.2.1.length (tB fs s.2.2.1) (sta (tB fs s.2.2.1) s.2.1.1 rc R)).foldl (sC C (tB fs s.2.2.1) (cAd fs s.2.2.1 (tB fs s.2.2.1))) []) ∧ frGa τ τ' := by
  have hS := h.1
  have o := G1700 hS
  obtain ⟨τ1, hτ1⟩ : ∃ x, x = tI τ 1700 11 (nI 0) := ⟨_, rfl⟩
  obtain ⟨τ2, hτ2⟩ : ∃ x, x = tJ (tI (tI τ1 1697 3 (nI 0)) 1697 4 (nI 0)) 1697 5 (lN 0) := ⟨_, rfl⟩
  have f1 : frLy τ τ1 := by rw [hτ1]; exact frLy_I (Or.inr (Or.inl rfl))
  have f2 : frGa τ τ2 := frGa_trans (τ1 := τ1) (by rw [hτ1]; exact frGa_I (Or.inr rfl)) (by rw [hτ2]; exact frGa_trans (frGa_trans (frGa_I (Or.inl rfl)) (frGa_I (Or.inl rfl))) frGa_J)
  have ho : COr τ2 [] := ⟨by rw [hτ2]; show fI (tI (tI τ1 1697 3 (nI 0)) 1697 4 (nI 0)) 1700 11 = _; rw [tI_ne (Or.inl (by decide)), tI_ne (Or.inl (by decide)), hτ1, tI_at]; rfl, fun i x hx => by rw [List.getElem?_nil] at hx; cases hx⟩
  have hp : CPl τ2 C [] := ⟨by rw [hτ2]; show fI (tI (tI τ1 1697 3 (nI 0)) 1697 4 (nI 0)) 1697 3 = _; rw [tI_ne (Or.inr (by decide)), tI_at]; rfl, by rw [hτ2]; show fI (tI (tI τ1 1697 3 (nI 0)) 1697 4 (nI 0)) 1697 4 = _; rw [tI_at]; rfl, ⟨List.Pairwise.nil, fun f hf => nomatch hf⟩, fun i f hf => by rw [List.getElem?_nil] at hf; cases hf⟩
  obtain ⟨τ', j1, j2, j3, j4⟩ := k_ga_14 (F := F) (c := c) hF hc (STr_k hr) hsum 6 0 F τ2 ([], []) rfl (by omega) (TKe_Ly h f2.1) (CB_Ly hb f2.1) ho hp ⟨List.Pairwise.nil, fun y hy => nomatch hy⟩
  have hob : ∀ t, t < s.2.2.1.length → ∃ m, eObj (tB fs s.2.2.1 t) m = 0 := fun t ht => by
    obtain ⟨q, _, _, _, _, he, _⟩ := TKe_ob h ht
    exact ⟨_, he⟩
  obtain ⟨l1, l2⟩ := cg_layL (C := C) (ST := ST) (tb := tB fs s.2.2.1) (cA := cAd fs s.2.2.1 (tB fs s.2.2.1)) (T := s.2.2.1.length) (sy := sta (tB fs s.2.2.1) s.2.1.1 rc R) (fun t ht => by obtain ⟨m, hm⟩ := hob t ht; exact (eObj_0 hm).1.1.2.1) (fun t ht i h1 hi => by
    have h24 := (TKe_ys h t ht).2.1
    rw [hr _ (by omega), show (24 * t + i) / 24 = t by omega, show (24 * t + i) % 24 = i by omega]
    unfold kpB sta
    rw [decide_eq_true hi, Bool.true_and]) (fun t ht i hi hz => by
    rw [hr _ (by omega), show (24 * t + i) / 24 = t by omega, show (24 * t + i) % 24 = i by omega]
    have hk : kpB (tB fs s.2.2.1 t) i = false := by
      unfold kpB
      rcases hz with e | e
      · obtain ⟨m, hm⟩ := hob t ht
        have h0 := (eObj_g hm).1
        have : oK (tB fs s.2.2.1 t) i = false := by
          unfold oK
          rw [e]
          exact decide_eq_false (fun q => by rw [h0] at q; omega)
        rw [this, Bool.and_false]
      · rw [decide_eq_false (by omega), Bool.false_and]
    rw [hk, Bool.false_and])
  rw [l1] at j2
  rw [l2] at j3
  refine ⟨τ', ?_, j2, j3, frGa_trans f2 j4⟩
  unfold f_Layout_gather
  rw [C2p11 o, bs, ← hτ1, C2r1 o (GR_r (v := 1697) (GR_Ly h.2.1 f1) (by decide)), bs, c_o (G1697 hS), bs]
  unfold f_Pool_clear
  rw [C9p3 (G1697 hS), bs, C9p4 (G1697 hS), bs, C9p5 (G1697 hS), bs, ← hτ2, xb_mk]
  exact j1
end CGC
