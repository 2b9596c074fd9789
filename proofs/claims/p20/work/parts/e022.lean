section
/-! what holds of the reference between two calls (steps spelled out by sf/pp.py) -/
/-- whom members were taken for: names that are there -/
def CPs (s : px_TK) : Prop := ∀ q i, s.2.2.2 q = some i → i < s.1.2.1.length
theorem CPs_tk {s : px_TK} {b : Nat → Nat} {q : Nat} (h : CPs s) : CPs (tkM b q s) := fun q' i hi => Nat.lt_of_lt_of_le (h q' i hi) (tks_len _ _ _)
theorem CPs_tf1 {fs : px_FS} {f k : Nat} {p : px_TK × Bool} (h : CPs p.1) : CPs (tf1 fs f k p).1 := by
  unfold tf1
  split
  · exact h
  · split
    · exact h
    · rename_i y hy
      split
      · exact h
      · split
        · exact h
        · rename_i i hi
          refine CPs_tk (s := (p.1.1, p.1.2.1, p.1.2.2.1, fun x => if x = 8 * f + k then some i else p.1.2.2.2 x)) (fun q' i' he => ?_)
          have he : (if q' = 8 * f + k then some i else p.1.2.2.2 q') = some i' := he
          by_cases c : q' = 8 * f + k
          · rw [if_pos c] at he
            cases he
            exact hpf_lt hi
          · rw [if_neg c] at he
            exact h q' i' he
theorem CPs_tfL {fs : px_FS} {f c : Nat} {s : px_TK} (h : CPs s) : CPs (tfL fs f c s) := by
  unfold tfL
  refine whl_inv (st := tfS) (g := rdF fs f) (P := CPs) (fun s hs => ?_) c s h
  unfold rdF
  exact itr_inv (g := tf1 fs f) (P := fun p : px_TK × Bool => CPs p.1) (a := 0) (e := 8) (fun k p _ _ hp => CPs_tf1 hp) 8 0 (s, false) (Nat.le_refl _) (Nat.le_refl _) hs
theorem CPs_ta1 {fs : px_FS} {f : Nat} {s : px_TK} (h : CPs s) : CPs (ta1 fs f s) := by
  unfold ta1
  split
  · exact h
  · split
    · exact h
    · split
      · exact CPs_tfL h
      · exact CPs_tk h
theorem CPs_tas {fs : px_FS} : ∀ (c f : Nat) (s : px_TK), CPs s → CPs (itr (ta1 fs) f c s) := by
  intro c
  induction c with
  | zero => intro f s h; exact h
  | succ c ih =>
    intro f s h
    rw [itr_s]
    exact ih (f + 1) _ (CPs_ta1 h)
theorem CPs_taL {fs : px_FS} {xs : px_NL} {od : List Nat} : CPs (taL fs xs od) := CPs_tas 8 0 _ (fun q i h => by cases h)
/-- what the latest link left, as the reference has it -/
def RXo (σ : px_S) (fs : px_FS) (a : Int32) (Y : px_Y) : Prop := ((∀ q, q < 64 → isZ (gA σ 18 q)) ∧ ∃ nms, RNm σ nms ∧ ∀ q, q < 8 * fs.length → ∃ x y : Bool, gA σ 19 (q / 8) = bI x ∧ gA σ 18 q = bI y ∧ (x && y) = Y.1.1 q ∧ (Y.1.1 q = true → (Y.2.1 q = none ∧ gA σ 40 q = Int32.ofInt (-1)) ∨ ∃ i w, Y.2.1 q = some w ∧ nms[i]? = some w ∧ gA σ 40 q = nI i)) ∧ (a = 0 → (gI σ 50 = nI Y.2.2.1.length ∧ ∀ (i : Nat) (p : Nat × Nat × Nat × Nat × Nat × Nat), Y.2.2.1[i]? = some p → gA σ 52 i = nI p.1 ∧ gA σ 53 i = nI p.2.1 ∧ gA σ 54 i = nI p.2.2.1 ∧ gA σ 55 i = nI p.2.2.2.1 ∧ gA σ 56 i = nI p.2.2.2.2.1 ∧ gB σ 57 i = lN p.2.2.2.2.2) ∧ RNm σ (Y.2.2.2.1.map Prod.fst) ∧ (∀ (i : Nat) (x : List Nat × Int64), Y.2.2.2.1[i]? = some x → gB σ 29 i = x.2) ∧ RO σ Y.2.2.2.2)
theorem RXo_fr {σ σ' : px_S} {fs : px_FS} {a : Int32} {Y : px_Y} (h : RXo σ fs a Y) (g : ∀ k, k ∈ [20, 48, 50] → gI σ' k = gI σ k) (gA' : ∀ k, k ∈ [18, 19, 21, 22, 40, 49, 52, 53, 54, 55, 56] → gA σ' k = gA σ k) (gB' : ∀ k, k ∈ [29, 57] → gB σ' k = gB σ k) : RXo σ' fs a Y := by
  obtain ⟨⟨h0, nms, h1, h2⟩, h3⟩ := h
  refine ⟨⟨fun q hq => by rw [gA' 18 (by decide)]; exact h0 q hq, nms, RNm_eq h1 (g 20 (by decide)) (gA' 21 (by decide)) (gA' 22 (by decide)), fun q hq => by rw [gA' 19 (by decide), gA' 18 (by decide), gA' 40 (by decide)]; exact h2 q hq⟩, fun ha => ?_⟩
  obtain ⟨⟨k1, k2⟩, k3, k4, k5, k6, k7⟩ := h3 ha
  refine ⟨⟨(g 50 (by decide)).trans k1, fun i p hp => by rw [gA' 52 (by decide), gA' 53 (by decide), gA' 54 (by decide), gA' 55 (by decide), gA' 56 (by decide), gB' 57 (by decide)]; exact k2 i p hp⟩, RNm_eq k3 (g 20 (by decide)) (gA' 21 (by decide)) (gA' 22 (by decide)), fun i x hx => by rw [gB' 29 (by decide)]; exact k4 i x hx, (g 48 (by decide)).trans k5, k6, fun i d hd => by rw [gA' 49 (by decide)]; exact k7 i d hd⟩
theorem RXo_FR {σ σ' : px_S} {fs : px_FS} {a : Int32} {Y : px_Y} {I J A B : List Nat} (h : RXo σ fs a Y) (f : FR I J A B σ σ') (h1 : ∀ k, k ∈ [20, 48, 50] → k ∉ I) (h3 : ∀ k, k ∈ [18, 19, 21, 22, 40, 49, 52, 53, 54, 55, 56] → k ∉ A) (h4 : ∀ k, k ∈ [29, 57] → k ∉ B) : RXo σ' fs a Y := RXo_fr h (fun k hk => f.1 k (h1 k hk)) (fun k hk => f.2.2.1 k (h3 k hk)) (fun k hk => f.2.2.2 k (h4 k hk))
/-- a file is added: it was not taken -/
theorem RXo_add {σ σ' : px_S} {fs : px_FS} {x : Nat × (Nat → Nat)} {a : Int32} {Y : px_Y} {I J A B : List Nat} (h : RXo σ fs a Y) (hl : fs.length < 8) (hy : ∀ q, 8 * fs.length ≤ q → q < 64 → Y.1.1 q = false) (f : FR I J A B σ σ') (h1 : ∀ k, k ∈ [20, 48, 50] → k ∉ I) (h3 : ∀ k, k ∈ [18, 21, 22, 40, 49, 52, 53, 54, 55, 56] → k ∉ A) (h4 : ∀ k, k ∈ [29, 57] → k ∉ B) (e0 : gA σ' 19 fs.length = nI 0) (e1 : ∀ i, i ≠ fs.length → gA σ' 19 i = gA σ 19 i) : RXo σ' (fs ++ [x]) a Y := by
  have g : ∀ k, k ∈ [20, 48, 50] → gI σ' k = gI σ k := fun k hk => f.1 k (h1 k hk)
  have gA' : ∀ k, k ∈ [18, 21, 22, 40, 49, 52, 53, 54, 55, 56] → gA σ' k = gA σ k := fun k hk => f.2.2.1 k (h3 k hk)
  have gB' : ∀ k, k ∈ [29, 57] → gB σ' k = gB σ k := fun k hk => f.2.2.2 k (h4 k hk)
  obtain ⟨⟨h0, nms, h1, h2⟩, h3⟩ := h
  refine ⟨⟨fun q hq => by rw [gA' 18 (by decide)]; exact h0 q hq, nms, RNm_eq h1 (g 20 (by decide)) (gA' 21 (by decide)) (gA' 22 (by decide)), fun q hq => ?_⟩, fun ha => ?_⟩
  · rw [List.length_append, List.length_singleton] at hq
    rw [gA' 18 (by decide), gA' 40 (by decide)]
    by_cases c : q < 8 * fs.length
    · rw [e1 _ (by omega)]
      exact h2 q c
    · obtain ⟨y, hy'⟩ := h0 q (by omega)
      have hf := hy q (by omega) (by omega)
      rw [show q / 8 = fs.length by omega, e0, hf]
      exact ⟨false, y, rfl, hy', rfl, fun w => by cases w⟩
  · obtain ⟨⟨k1, k2⟩, k3, k4, k5, k6, k7⟩ := h3 ha
    refine ⟨⟨(g 50 (by decide)).trans k1, fun i p hp => by rw [gA' 52 (by decide), gA' 53 (by decide), gA' 54 (by decide), gA' 55 (by decide), gA' 56 (by decide), gB' 57 (by decide)]; exact k2 i p hp⟩, RNm_eq k3 (g 20 (by decide)) (gA' 21 (by decide)) (gA' 22 (by decide)), fun i x hx => by rw [gB' 29 (by decide)]; exact k4 i x hx, (g 48 (by decide)).trans k5, k6, fun i d hd => by rw [gA' 49 (by decide)]; exact k7 i d hd⟩
theorem RXo_drop {σ : px_S} {fs : px_FS} {x : Nat × (Nat → Nat)} {a : Int32} {Y : px_Y} (h : RXo σ (fs ++ [x]) a Y) : RXo σ fs a (dropY fs.length Y) := by
  obtain ⟨⟨h0, nms, h1, h2⟩, h3⟩ := h
  refine ⟨⟨h0, nms, h1, fun q hq => ?_⟩, h3⟩
  have w := h2 q (by rw [List.length_append]; omega)
  show ∃ x y : Bool, gA σ 19 (q / 8) = bI x ∧ gA σ 18 q = bI y ∧ (x && y) = (decide (q < 8 * fs.length) && Y.1.1 q) ∧ ((decide (q < 8 * fs.length) && Y.1.1 q) = true → ((if q < 8 * fs.length then Y.2.1 q else none) = none ∧ gA σ 40 q = Int32.ofInt (-1)) ∨ ∃ i w, (if q < 8 * fs.length then Y.2.1 q else none) = some w ∧ nms[i]? = some w ∧ gA σ 40 q = nI i)
  rw [decide_eq_true hq, Bool.true_and, if_pos hq]
  exact w
/-- what a link leaves -/
theorem RXo_link {σ : px_S} {fs : px_FS} {s : px_TK} {gs : List (List Nat × Int64)} {ws : List (List Nat)} {k : Nat} {ll : List Nat} {ad : Nat → Nat} {NA : px_NA} (es : s = taL fs (xs0 gs ws) (od0 gs)) (hL : LNP fs s σ) (hk : k ≤ 4) (h0 : k = 0 → RLa σ (tQf s.2.2.1) (tB fs s.2.2.1) ll ∧ (∀ (P x : Nat), ll[P]? = some x → gB σ 57 P = lN (ad x)) ∧ (∀ j, j < (xsN s).length → gB σ 29 j = NA.1 j) ∧ LKZ σ (vFe NA.2.2.2.2) NA.2.1) : RXo σ fs (nI k) (lnY fs s ll ad NA) := by
  obtain ⟨⟨l1, l2, l3, l4, l5, l6, l7, ⟨l8, l8'⟩, l9⟩, _⟩ := hL
  have hcp : CPs s := by rw [es]; exact CPs_taL
  have h8 := l2.2.1
  refine ⟨⟨fun q hq => ⟨_, l8 q hq⟩, (xsN s).map Prod.fst, l3.1, fun q hq => ?_⟩, fun ha => ?_⟩
  · refine ⟨true, decide (q ∈ s.2.2.1), l8' _ (by omega), l8 q (by omega), rfl, fun _ => ?_⟩
    rw [l9 q (by omega)]
    show ((s.2.2.2 q).bind (fun i => (s.1.2.1.map Prod.fst)[i]?) = none ∧ tdA (s.2.2.2 q) = Int32.ofInt (-1)) ∨ ∃ i w, (s.2.2.2 q).bind (fun i => (s.1.2.1.map Prod.fst)[i]?) = some w ∧ ((xsN s).map Prod.fst)[i]? = some w ∧ tdA (s.2.2.2 q) = nI i
    cases e : s.2.2.2 q with
    | none => exact Or.inl ⟨rfl, rfl⟩
    | some i =>
      have hi := hcp q i e
      obtain ⟨w, hw⟩ : ∃ w, (s.1.2.1.map Prod.fst)[i]? = some w := ⟨_, List.getElem?_eq_getElem (by rw [List.length_map]; exact hi)⟩
      exact Or.inr ⟨i, w, hw, by rw [xsN_fst]; exact hw, rfl⟩
  · have k0 : k = 0 := (nI_eq (b := 0) (by omega) (by decide)).mp ha
    obtain ⟨⟨r1, r2⟩, r3, r4, _⟩ := h0 k0
    refine ⟨⟨?_, fun i p hp => ?_⟩, ?_, fun i x hx => ?_, l4⟩
    · show gI σ 50 = nI (List.map _ ll).length
      rw [List.length_map]
      exact r1
    · have hp : (ll.map (fun x => (tQf s.2.2.1 (x / 24) / 8, tQf s.2.2.1 (x / 24) % 8, x % 24, oG (tB fs s.2.2.1 (x / 24)) (x % 24), oZ (tB fs s.2.2.1 (x / 24)) (x % 24), ad x)))[i]? = some p := hp
      rw [List.getElem?_map] at hp
      cases ex : ll[i]? with
      | none => rw [ex] at hp; cases hp
      | some x =>
        rw [ex] at hp
        have hp := Option.some.inj hp
        rw [← hp]
        obtain ⟨_, x2, x3, x4, x5, x6⟩ := r2 i x ex
        exact ⟨x2, x3, x4, x5, x6, r3 i x ex⟩
    · show RNm σ (((xsN s).mapIdx (fun j x => (x.1, NA.1 j))).map Prod.fst)
      rw [mI_fst]
      exact l3.1
    · have hx : ((xsN s).mapIdx (fun j x => (x.1, NA.1 j)))[i]? = some x := hx
      rw [List.getElem?_mapIdx] at hx
      cases ey : (xsN s)[i]? with
      | none => rw [ey] at hx; cases hx
      | some y =>
        rw [ey] at hx
        have hx := Option.some.inj hx
        rw [← hx]
        exact r4 i (List.getElem?_eq_some_iff.mp ey).1
def RX (σ : px_S) (fs : px_FS) (a : Int32) (Y : px_Y) : Prop := RXo σ fs a Y ∧ (a = 0 → LKZ σ Y.1.2.1 Y.1.2.2)
theorem LKZ_fr {σ σ' : px_S} {fe : Nat} {th : Nat → Bool} (h : LKZ σ fe th) (e1 : gI σ' 43 = gI σ 43) (e2 : gI σ' 15 = gI σ 15) (e3 : gA σ' 59 = gA σ 59) : LKZ σ' fe th := ⟨h.1, e1.trans h.2.1, e2.trans h.2.2.1, fun j hj => by rw [e3]; exact h.2.2.2 j hj⟩
theorem RX_fr {σ σ' : px_S} {fs : px_FS} {a : Int32} {Y : px_Y} (h : RX σ fs a Y) (g : ∀ k, k ∈ [15, 20, 43, 48, 50] → gI σ' k = gI σ k) (gA' : ∀ k, k ∈ [18, 19, 21, 22, 40, 49, 52, 53, 54, 55, 56, 59] → gA σ' k = gA σ k) (gB' : ∀ k, k ∈ [29, 57] → gB σ' k = gB σ k) : RX σ' fs a Y := ⟨RXo_fr h.1 (fun k hk => g k (by revert k; decide)) (fun k hk => gA' k (by revert k; decide)) gB', fun ha => LKZ_fr (h.2 ha) (g 43 (by decide)) (g 15 (by decide)) (gA' 59 (by decide))⟩
theorem RX_FR {σ σ' : px_S} {fs : px_FS} {a : Int32} {Y : px_Y} {I J A B : List Nat} (h : RX σ fs a Y) (f : FR I J A B σ σ') (h1 : ∀ k, k ∈ [15, 20, 43, 48, 50] → k ∉ I) (h3 : ∀ k, k ∈ [18, 19, 21, 22, 40, 49, 52, 53, 54, 55, 56, 59] → k ∉ A) (h4 : ∀ k, k ∈ [29, 57] → k ∉ B) : RX σ' fs a Y := RX_fr h (fun k hk => f.1 k (h1 k hk)) (fun k hk => f.2.2.1 k (h3 k hk)) (fun k hk => f.2.2.2 k (h4 k hk))
theorem RX_add {σ σ' : px_S} {fs : px_FS} {x : Nat × (Nat → Nat)} {a : Int32} {Y : px_Y} {I J A B : List Nat} (h : RX σ fs a Y) (hl : fs.length < 8) (hy : ∀ q, 8 * fs.length ≤ q → q < 64 → Y.1.1 q = false) (f : FR I J A B σ σ') (h1 : ∀ k, k ∈ [15, 20, 43, 48, 50] → k ∉ I) (h3 : ∀ k, k ∈ [18, 21, 22, 40, 49, 52, 53, 54, 55, 56, 59] → k ∉ A) (h4 : ∀ k, k ∈ [29, 57] → k ∉ B) (e0 : gA σ' 19 fs.length = nI 0) (e1 : ∀ i, i ≠ fs.length → gA σ' 19 i = gA σ 19 i) : RX σ' (fs ++ [x]) a Y := ⟨RXo_add h.1 hl hy f (fun k hk => h1 k (by revert k; decide)) (fun k hk => h3 k (by revert k; decide)) h4 e0 e1, fun ha => LKZ_fr (h.2 ha) (f.1 43 (h1 43 (by decide))) (f.1 15 (h1 15 (by decide))) (f.2.2.1 59 (h3 59 (by decide)))⟩
theorem RX_drop {σ : px_S} {fs : px_FS} {x : Nat × (Nat → Nat)} {a : Int32} {Y : px_Y} (h : RX σ (fs ++ [x]) a Y) : RX σ fs a (dropY fs.length Y) := ⟨RXo_drop h.1, h.2⟩
theorem RX_link {σ : px_S} {fs : px_FS} {s : px_TK} {gs : List (List Nat × Int64)} {ws : List (List Nat)} {k : Nat} {ll : List Nat} {ad : Nat → Nat} {NA : px_NA} (es : s = taL fs (xs0 gs ws) (od0 gs)) (hL : LNP fs s σ) (hk : k ≤ 4) (h0 : k = 0 → RLa σ (tQf s.2.2.1) (tB fs s.2.2.1) ll ∧ (∀ (P x : Nat), ll[P]? = some x → gB σ 57 P = lN (ad x)) ∧ (∀ j, j < (xsN s).length → gB σ 29 j = NA.1 j) ∧ LKZ σ (vFe NA.2.2.2.2) NA.2.1) : RX σ fs (nI k) (lnY fs s ll ad NA) := ⟨RXo_link es hL hk h0, fun ha => (h0 ((nI_eq (b := 0) (by omega) (by decide)).mp ha)).2.2.2⟩
/-- what hangs on the latest link -/
def RVm (σ : px_S) : Prop := (∃ nms, RNm σ nms ∧ CAu σ nms) ∧ (∃ n, n ≤ 1536 ∧ gI σ 50 = nI n) ∧ (gI σ 13 = 0 → (∃ nS nD zf uf gf ff mf lf df, MPs σ nS nD zf uf gf ff mf lf df) ∧ ∃ e nD th lf df, NMs σ e nD th lf df)
def RVl (σ : px_S) (fs : px_FS) (a : Int32) (Y : px_Y) : Prop := (∃ nms, RNm σ nms ∧ CAu σ nms) ∧ (∃ n, n ≤ 1536 ∧ gI σ 50 = nI n) ∧ (gI σ 13 = 0 → (∃ nS nD zf uf gf ff mf lf df, MPs σ nS nD zf uf gf ff mf lf df) ∧ ∃ e nD th lf df, NMs σ e nD th lf df) ∧ RX σ fs a Y
def RVc (σ : px_S) (fs : px_FS) (a : Int32) (Y : px_Y) : Prop := RVl σ fs a Y ∧ gI σ 13 = a ∧ (∀ k, isB (gA σ 42 k)) ∧ (∀ k, isB (gA σ 91 k)) ∧ (∃ ch, gI σ 98 = bI ch) ∧ RC σ
def RV (σ : px_S) (fs : px_FS) (gs : List (List Nat × Int64)) (ws : List (List Nat)) (n : Nat) (b : Nat → Nat) (a : Int32) (Y : px_Y) : Prop := RT σ n b ∧ RF σ fs ∧ RG σ gs ∧ RW σ ws ∧ OUo σ ∧ MV σ ∧ MNa σ ∧ RVc σ fs a Y
section MRV
variable {F m : Nat} {h : px_H} {σ0 σ σ' : px_S} {fs : px_FS} {gs : List (List Nat × Int64)} {ws : List (List Nat)} {n : Nat} {b : Nat → Nat} {a : Int32} {Y : px_Y} {I J A B : List Nat}
theorem RT_FR (ht : RT σ n b) (f : FR I J A B σ σ') (h2 : 2 ∉ I) (h1 : 1 ∉ A) : RT σ' n b := by
  have e := f.2.2.1 1 h1
  exact ⟨(f.1 2 h2).trans ht.1, ht.2.1, by rw [e]; exact ht.2.2.1, by rw [e]; exact ht.2.2.2⟩
theorem MV_FR (hv : MV σ) (f : FR I J A B σ σ') (h1 : 102 ∉ I) (h2 : 106 ∉ B ∧ 107 ∉ B ∧ 108 ∉ B) : MV σ' := by
  obtain ⟨r, hr, er, hx⟩ := hv
  exact ⟨r, hr, (f.1 102 h1).trans er, fun i hi => by rw [f.2.2.2 106 h2.1, f.2.2.2 107 h2.2.1, f.2.2.2 108 h2.2.2]; exact hx i hi⟩
theorem MNa_FR (hv : MNa σ) (f : FR I J A B σ σ') (h1 : 44 ∉ I) (h2 : 45 ∉ A ∧ 46 ∉ A) : MNa σ' := by
  obtain ⟨r, hr, er, hx⟩ := hv
  exact ⟨r, hr, (f.1 44 h1).trans er, fun i hi => by rw [f.2.2.1 45 h2.1, f.2.2.1 46 h2.2]; exact hx i hi⟩
theorem RVl_F0 (hv : RVm σ) (f : FR I J A B σ σ') (h1 : ∀ k, k ∈ [13, 15, 20, 43, 48, 50] → k ∉ I) (h3 : ∀ k, k ∈ [18, 21, 22, 39, 40, 49, 52, 53, 54, 55, 56, 59] → k ∉ A) : RVm σ' := by
  obtain ⟨⟨nms, hn, hc⟩, ⟨n, hn1, hn2⟩, hd⟩ := hv
  have g : ∀ k, k ∈ [13, 15, 20, 43, 48, 50] → gI σ' k = gI σ k := fun k hk => f.1 k (h1 k hk)
  have gA' : ∀ k, k ∈ [18, 21, 22, 39, 40, 49, 52, 53, 54, 55, 56, 59] → gA σ' k = gA σ k := fun k hk => f.2.2.1 k (h3 k hk)
  refine ⟨⟨nms, RNm_eq hn (g 20 (by decide)) (gA' 21 (by decide)) (gA' 22 (by decide)), fun q hq => ?_⟩, ⟨n, hn1, (g 50 (by decide)).trans hn2⟩, fun h0 => ?_⟩
  · rw [gA' 18 (by decide), gA' 40 (by decide)]; exact hc q hq
  · obtain ⟨⟨nS, nD, zf, uf, gf, ff, mf, lf, df, ⟨m1, m2, m3⟩, m4, m5, m6⟩, e, nD', th, lf', df', ⟨n1, n2⟩, ⟨n3, n4⟩, n5, n6, n7⟩ := hd ((g 13 (by decide)).symm.trans h0)
    refine ⟨⟨nS, nD, zf, uf, gf, ff, mf, lf, df, ⟨m1, (g 50 (by decide)).trans m2, fun p hp => ?_⟩, m4, (g 48 (by decide)).trans m5, fun i hi => ?_⟩, e, nD', th, lf', df', ⟨n1, (g 43 (by decide)).trans n2⟩, ⟨(g 15 (by decide)).trans n3, fun j hj => ?_⟩, n5, (g 48 (by decide)).trans n6, fun i hi => ?_⟩
    · rw [gA' 56 (by decide), gA' 54 (by decide), gA' 55 (by decide), gA' 52 (by decide), gA' 53 (by decide)]; exact m3 p hp
    · rw [gA' 49 (by decide), gA' 22 (by decide)]; exact m6 i hi
    · rw [gA' 59 (by decide)]; exact n4 j hj
    · rw [gA' 49 (by decide), gA' 22 (by decide), gA' 39 (by decide)]; exact n7 i hi
theorem RVl_FR (hv : RVl σ fs a Y) (f : FR I J A B σ σ') (h1 : ∀ k, k ∈ [13, 15, 20, 43, 48, 50] → k ∉ I) (h3 : ∀ k, k ∈ [18, 19, 21, 22, 39, 40, 49, 52, 53, 54, 55, 56, 59] → k ∉ A) (h4 : ∀ k, k ∈ [29, 57] → k ∉ B) : RVl σ' fs a Y := by
  obtain ⟨w1', w2', w3'⟩ := RVl_F0 ⟨hv.1, hv.2.1, hv.2.2.1⟩ f h1 (fun k hk => h3 k (by revert k; decide))
  exact ⟨w1', w2', w3', RX_FR hv.2.2.2 f (fun k hk => h1 k (by revert k; decide)) (fun k hk => h3 k (by revert k; decide)) h4⟩
theorem RVc_FR (hv : RVc σ fs a Y) (f : FR I J A B σ σ') (h1 : ∀ k, k ∈ [13, 15, 20, 43, 48, 50, 98] → k ∉ I) (h3 : ∀ k, k ∈ [18, 19, 21, 22, 39, 40, 42, 49, 52, 53, 54, 55, 56, 59, 91, 97, 116] → k ∉ A) (h4 : ∀ k, k ∈ [29, 57] → k ∉ B) : RVc σ' fs a Y := by
  obtain ⟨v1, v2, v3, v4, ⟨ch, v5⟩, v6⟩ := hv
  exact ⟨RVl_FR v1 f (fun k hk => h1 k (List.mem_append_left [98] hk)) (fun k hk => h3 k (by simp only [List.mem_cons, List.not_mem_nil, or_false] at hk ⊢; omega)) h4, (f.1 13 (h1 13 (by decide))).trans v2, fun k => by rw [f.2.2.1 42 (h3 42 (by decide))]; exact v3 k, fun k => by rw [f.2.2.1 91 (h3 91 (by decide))]; exact v4 k, ⟨ch, (f.1 98 (h1 98 (by decide))).trans v5⟩, RC_FR v6 f (h3 116 (by decide)) (h3 97 (by decide))⟩
/-- calls that only write OUT and what they work with -/
theorem RV_out (hv : RV σ fs gs ws n b a Y) (f : FR [0, 4, 123, 124, 125, 126, 127] [] [3, 117, 118, 119, 120, 121, 122, 128, 129] [] σ σ') (ho : OUo σ') : RV σ' fs gs ws n b a Y := by
  obtain ⟨v1, v2, v3, v4, v5, v6, v7, v8⟩ := hv
  exact ⟨RT_FR v1 f (by decide) (by decide), RF_FR v2 f (by decide) (by decide), RG_FR v3 f (by decide) (by decide) (by decide), RW_FR v4 f (by decide) (by decide), ho, MV_FR v6 f (by decide) (by decide), MNa_FR v7 f (by decide) (by decide), RVc_FR v8 f (by decide) (by decide) (by decide)⟩
theorem RV_0 (hv : RV σ fs gs ws n b a Y) (f : FR [0] [] [] [] σ σ') : RV σ' fs gs ws n b a Y := RV_out hv (FR_mono f (by decide) (by decide) (by decide) (by decide)) (OUo_FR hv.2.2.2.2.1 f (by decide) (by decide))
theorem RV_W (hv : RV σ fs gs ws n b a Y) (w : OWe σ σ') : RV σ' fs gs ws n b a Y := by
  obtain ⟨cc, hcc, hW⟩ := w
  exact RV_out hv (FR_mono hW.1 (by decide) (by decide) (by decide) (by decide)) ⟨⟨cc, hcc, hW.2.1⟩, hW.2.2⟩
/-- a call that is safe: what holds then -/
def UM (m : Nat) (h : px_H) (fs : px_FS) (gs : List (List Nat × Int64)) (ws : List (List Nat)) (n : Nat) (b : Nat → Nat) (a : Int32) (Y : px_Y) {α : Type} (o : Option (α × px_H)) : Prop := ∃ v σ', o = some (v, mh m h σ') ∧ RV σ' fs gs ws n b a Y
theorem UM_0 {α : Type} {o : Option (α × px_H)} (hv : RV σ fs gs ws n b a Y) (w : Sm m h (FR [0] [] [] [] σ) Any o) : UM m h fs gs ws n b a Y o := by
  obtain ⟨v, σ', e, _, f⟩ := w
  exact ⟨v, σ', e, RV_0 hv f⟩
theorem UM_W {α : Type} {o : Option (α × px_H)} (hv : RV σ fs gs ws n b a Y) (w : Sm m h (OWe σ) Any o) : UM m h fs gs ws n b a Y o := by
  obtain ⟨v, σ', e, _, f⟩ := w
  exact ⟨v, σ', e, RV_W hv f⟩
theorem u_look {x : Int32} (hm : m ≤ h.length) (hv : RV σ fs gs ws n b a Y) : UM m h fs gs ws n b a Y (f_M_look F m x (mh m h σ)) := UM_0 hv (sm_look hm (FR_refl σ))
theorem u_place {x : Int32} (hm : m ≤ h.length) (hv : RV σ fs gs ws n b a Y) : UM m h fs gs ws n b a Y (f_M_place F m x (mh m h σ)) := by
  obtain ⟨k, k1, k2⟩ := hv.2.2.2.2.2.2.2.1.2.1
  exact UM_0 hv (sm_place hm k1 k2 (FR_refl σ))
theorem u_section {x y : Int32} (hm : m ≤ h.length) (hv : RV σ fs gs ws n b a Y) : UM m h fs gs ws n b a Y (f_M_section F m x y (mh m h σ)) := by
  obtain ⟨k, k1, k2⟩ := hv.2.2.2.2.2.2.2.1.2.1
  exact UM_0 hv (sm_section hm k1 k2 (FR_refl σ))
theorem u_flags {x : Int64} (hm : m ≤ h.length) (hF : 65540 < F) (hv : RV σ fs gs ws n b a Y) : UM m h fs gs ws n b a Y (f_M_flags F m x (mh m h σ)) := UM_0 hv (sm_flags hm (by omega) hv.2.2.2.2.2.1 (FR_refl σ))
theorem u_peek {x : Int64} (hm : m ≤ h.length) (hF : 65540 < F) (hv : RV σ fs gs ws n b a Y) : UM m h fs gs ws n b a Y (f_M_peek F m x (mh m h σ)) := UM_0 hv (sm_peek hm (by omega) hv.2.2.2.2.2.1 (FR_refl σ))
theorem u_out {x : Int32} (hm : m ≤ h.length) (hF : 65540 < F) (hv : RV σ fs gs ws n b a Y) : UM m h fs gs ws n b a Y (f_M_out F m x (mh m h σ)) := by
  obtain ⟨k, k1, k2⟩ := hv.2.2.2.2.1.1
  exact UM_0 hv (sm_out hm (by omega) k1 k2 (FR_refl σ))
theorem u_taken {x y : Int32} (hm : m ≤ h.length) (hv : RV σ fs gs ws n b a Y) : UM m h fs gs ws n b a Y (f_M_taken F m x y (mh m h σ)) := UM_0 hv (sm_taken hm hv.2.1 (FR_refl σ))
theorem u_sum {x y z : Int32} (hm : m ≤ h.length) (hF : 65540 < F) (hv : RV σ fs gs ws n b a Y) : UM m h fs gs ws n b a Y (f_M_sum F m x y z (mh m h σ)) := UM_0 hv (sm_sum hm (by omega) hv.2.1 (FR_refl σ))
theorem u_list {x y : Int32} (hm : m ≤ h.length) (hF : 65540 < F) (hv : RV σ fs gs ws n b a Y) : UM m h fs gs ws n b a Y (f_M_list F m x y (mh m h σ)) := UM_W hv (sm_list hm hF hv.2.1 hv.2.2.2.2.1 (FR_refl σ))
theorem u_near {x : Int64} (hm : m ≤ h.length) (hF : 65540 < F) (hv : RV σ fs gs ws n b a Y) : UM m h fs gs ws n b a Y (f_M_near F m x (mh m h σ)) := UM_W hv (sm_near hm hF hv.2.2.2.2.2.1 hv.2.2.2.2.2.2.1 hv.2.2.2.2.1)
theorem u_map (hm : m ≤ h.length) (hF : 65540 < F) (hv : RV σ fs gs ws n b a Y) : UM m h fs gs ws n b a Y (f_M_map F m (mh m h σ)) := by
  have hl := hv.2.2.2.2.2.2.2.1.2.2.1
  by_cases c : gI σ 13 = 0
  · obtain ⟨nS, nD, zf, uf, gf, ff, mf, lf, df, hM⟩ := (hl c).1
    exact UM_W hv (sm_map hm hF hv.2.2.2.2.1 (fun _ => hM))
  · exact UM_W hv (sm_map (nS := 0) (nD := 0) (zf := id) (uf := id) (gf := id) (ff := id) (mf := id) (lf := id) (df := id) hm hF hv.2.2.2.2.1 (fun q => absurd q c))
theorem u_named (hm : m ≤ h.length) (hF : 65540 < F) (hv : RV σ fs gs ws n b a Y) : UM m h fs gs ws n b a Y (f_M_named F m (mh m h σ)) := by
  have hl := hv.2.2.2.2.2.2.2.1.2.2.1
  by_cases c : gI σ 13 = 0
  · obtain ⟨e, nD, th, lf, df, hM⟩ := (hl c).2
    exact UM_W hv (sm_named hm hF hv.2.2.2.2.1 (fun _ => hM))
  · exact UM_W hv (sm_named (e := 0) (nD := 0) (th := fun _ => false) (lf := id) (df := id) hm hF hv.2.2.2.2.1 (fun q => absurd q c))
theorem u_cause {x y : Int32} (hm : m ≤ h.length) (hF : 65540 < F) (hv : RV σ fs gs ws n b a Y) : UM m h fs gs ws n b a Y (f_M_cause F m x y (mh m h σ)) := by
  obtain ⟨nms, h1, h2⟩ := hv.2.2.2.2.2.2.2.1.1
  obtain ⟨v, σ', e, _, f, ho⟩ := sm_cause (F := F) (a1 := x) (a2 := y) hm (by omega) hv.2.1 h1 h2 hv.2.2.2.2.1 (FR_refl σ)
  exact ⟨v, σ', e, RV_out hv (FR_mono f (by decide) (by decide) (by decide) (by decide)) ho⟩
theorem u_pack (hm : m ≤ h.length) (hF : 65540 < F) (hv : RV σ fs gs ws n b a Y) : UM m h fs gs ws n b a Y (f_M_pack F m (mh m h σ)) := by
  obtain ⟨v, σ', e, _, f, ho⟩ := sm_pack (F := F) hm hF hv.2.1 hv.2.2.2.2.1
  exact ⟨v, σ', e, RV_out hv (FR_mono f (by decide) (by decide) (by decide) (by decide)) ho⟩
theorem u_boot {x : Int32} (hm : m ≤ h.length) (hF : 65540 < F) (hv : RV σ fs gs ws n b a Y) : UM m h fs gs ws (if x = 0 then n else 0) (if x = 0 then b else fun _ => 0) a Y (f_M_boot F m x (mh m h σ)) := by
  obtain ⟨v1, v2, v3, v4, v5, v6, v7, v8⟩ := hv
  obtain ⟨v, σ', e, _, f, e2, g1, g2⟩ := sm_boot (F := F) (a1 := x) hm hF v1 v5 v6 v7
  refine ⟨v, σ', e, ?_, RF_FR v2 f (by decide) (by decide), RG_FR v3 f (by decide) (by decide) (by decide), RW_FR v4 f (by decide) (by decide), OUo_FR v5 f (by decide) (by decide), g1, g2, RVc_FR v8 f (by decide) (by decide) (by decide)⟩
  have e1 : gA σ' 1 = gA σ 1 := f.2.2.1 1 (by decide)
  by_cases c : x = 0
  · rw [if_pos c] at e2
    rw [if_pos c, if_pos c]
    exact ⟨e2.trans v1.1, v1.2.1, by rw [e1]; exact v1.2.2.1, by rw [e1]; exact v1.2.2.2⟩
  · rw [if_neg c] at e2
    rw [if_neg c, if_neg c]
    refine ⟨e2, Nat.zero_le _, by rw [e1]; exact v1.2.2.1, ?_⟩
    funext y
    unfold cb
    rw [if_neg (Nat.not_lt_zero y)]
end MRV
end
section
/-! the reference's calls that change what it knows (steps spelled out by sf/pp.py) -/
section MRW
variable {F m : Nat} {h : px_H} {σ0 σ σ' : px_S} {fs : px_FS} {gs : List (List Nat × Int64)} {ws : List (List Nat)} {n : Nat} {b : Nat → Nat} {a : Int32} {Y : px_Y}
theorem u_feed {v w : Nat} (hm : m ≤ h.length) (hF : 65540 < F) (hv : RV σ fs gs ws n b a Y) (hvv : v < 2 ^ 64) (h1 : 1 ≤ w) (hw : w ≤ 8) (hn : n + w ≤ 8192) : ∃ σ', f_M_feed F m (nI w) (lN v) (mh m h σ) = some (nI (n + w), mh m h σ') ∧ gI σ' 0 = nI 0 ∧ RV σ' fs gs ws (n + w) (fdd b n v w) a Y := by
  obtain ⟨v1, v2, v3, v4, v5, v6, v7, v8⟩ := hv
  obtain ⟨σ', e, g1, g2, f1, f2, f3, f4⟩ := q_feed (F := F) hm (by omega) hvv h1 hw hn v1
  have f : FR [0, 2] [] [1] [] σ σ' := ⟨fun k hk => by simp only [List.mem_cons, List.not_mem_nil, or_false, not_or] at hk; exact f1 k hk.1 hk.2, fun k _ => f2 k, fun k hk => by simp only [List.mem_cons, List.not_mem_nil, or_false] at hk; exact f3 k hk, fun k _ => f4 k⟩
  exact ⟨σ', e, g2, g1, RF_FR v2 f (by decide) (by decide), RG_FR v3 f (by decide) (by decide) (by decide), RW_FR v4 f (by decide) (by decide), OUo_FR v5 f (by decide) (by decide), MV_FR v6 f (by decide) (by decide), MNa_FR v7 f (by decide) (by decide), RVc_FR v8 f (by decide) (by decide) (by decide)⟩
theorem u_feed_t {y : Int32} {z : Int64} (hv : RV σ fs gs ws n b a Y) (c : Int32) : RV (sI σ 0 c) fs gs ws n b a Y := RV_0 hv (FR_I _ _ _)
theorem u_add (hm : m ≤ h.length) (hF : 65540 < F) (hv : RV σ fs gs ws n b a Y) (hy : ∀ q, 8 * fs.length ≤ q → q < 64 → Y.1.1 q = false) : ∃ σ', f_M_add F m (mh m h σ) = some (nI (if fs.length = 8 then 0 else eFil b n), mh m h σ') ∧ gI σ' 0 = nI (if fs.length = 8 then 1 else 0) ∧ RV σ' (if fs.length = 8 then fs else if eFil b n = 0 then fs ++ [(n, b)] else fs) gs ws (if fs.length = 8 then n else 0) (if fs.length = 8 then b else fun _ => 0) a Y := by
  obtain ⟨v1, v2, v3, v4, v5, v6, v7, v8⟩ := hv
  obtain ⟨σ', e, ⟨f1, f2, f3, f4⟩, g1, g2⟩ := q_add (F := F) (by omega) hm v1 v2
  have f : FR [0, 2, 5] [] [6, 7, 8, 9, 10, 11, 12, 19, 96] [] σ σ' := ⟨fun k hk => by simp only [List.mem_cons, List.not_mem_nil, or_false, not_or] at hk; exact f1 k hk.1 hk.2.1 hk.2.2, fun k _ => f2 k, fun k hk => by simp only [List.mem_cons, List.not_mem_nil, or_false, not_or] at hk; obtain ⟨a1, a2, a3, a4, a5, a6, a7, a8, a9⟩ := hk; exact f4 k a1 a2 a3 a4 a5 a6 a7 a8 a9, fun k _ => f3 k⟩
  have h8 := v2.2.1
  obtain ⟨c1, c2, c3, c4, c5, c6⟩ := id v8
  obtain ⟨d1, d2, d3⟩ := RVl_F0 ⟨c1.1, c1.2.1, c1.2.2.1⟩ f (by decide) (by decide)
  have rvc : ∀ fs' : px_FS, RX σ' fs' a Y → RVc σ' fs' a Y := fun fs' hx => by
    obtain ⟨ch, c5⟩ := c5
    exact ⟨⟨d1, d2, d3, hx⟩, (f.1 13 (by decide)).trans c2, fun k => by rw [f.2.2.1 42 (by decide)]; exact c3 k, fun k => by rw [f.2.2.1 91 (by decide)]; exact c4 k, ⟨ch, (f.1 98 (by decide)).trans c5⟩, RC_FR c6 f (by decide) (by decide)⟩
  have same : (∀ i, gA σ' 19 i = gA σ 19 i) → RX σ' fs a Y := fun h19 => RX_fr c1.2.2.2 (fun k hk => f.1 k (by revert k; decide)) (fun k hk => by
    by_cases e : k = 19
    · rw [e]; funext i; exact h19 i
    · exact f.2.2.1 k (by revert k; decide)) (fun k hk => f.2.2.2 k (by revert k; decide))
  have rest : RG σ' gs ∧ RW σ' ws ∧ OUo σ' ∧ MV σ' ∧ MNa σ' := ⟨RG_FR v3 f (by decide) (by decide) (by decide), RW_FR v4 f (by decide) (by decide), OUo_FR v5 f (by decide) (by decide), MV_FR v6 f (by decide) (by decide), MNa_FR v7 f (by decide) (by decide)⟩
  obtain ⟨t1, t2, t3, t4, t5⟩ := rest
  refine ⟨σ', e, g1, ?_⟩
  by_cases c : fs.length = 8
  · rw [if_pos c] at g2
    rw [if_pos c, if_pos c, if_pos c]
    exact ⟨g2.1, g2.2.1, t1, t2, t3, t4, t5, rvc _ (same g2.2.2)⟩
  · rw [if_neg c] at g2
    rw [if_neg c, if_neg c, if_neg c]
    obtain ⟨g2, g3⟩ := g2
    by_cases c2 : eFil b n = 0
    · rw [if_pos c2] at g3
      rw [if_pos c2]
      exact ⟨g2, g3.1, t1, t2, t3, t4, t5, rvc _ (RX_add c1.2.2.2 (by omega) hy f (by decide) (by decide) (by decide) g3.2.1 g3.2.2)⟩
    · rw [if_neg c2] at g3
      rw [if_neg c2]
      exact ⟨g2, g3.1, t1, t2, t3, t4, t5, rvc _ (same g3.2)⟩
theorem RVc_dr {x : Nat × (Nat → Nat)} (h : RVc σ (fs ++ [x]) a Y) : RVc σ fs a (dropY fs.length Y) := ⟨⟨h.1.1, h.1.2.1, h.1.2.2.1, RX_drop h.1.2.2.2⟩, h.2⟩
theorem u_drop {x : Nat × (Nat → Nat)} (hm : m ≤ h.length) (hv : RV σ (fs ++ [x]) gs ws n b a Y) : ∃ σ', f_M_drop F m (mh m h σ) = some (nI fs.length, mh m h σ') ∧ gI σ' 0 = nI 0 ∧ RV σ' fs gs ws n b a (dropY fs.length Y) := by
  obtain ⟨v1, v2, v3, v4, v5, v6, v7, v8⟩ := hv
  obtain ⟨σ', e, g1, g2, f1, f2, f3, f4⟩ := q_drop (F := F) hm v2
  have f : FR [0, 5] [] [] [] σ σ' := ⟨fun k hk => by simp only [List.mem_cons, List.not_mem_nil, or_false, not_or] at hk; exact f1 k hk.1 hk.2, fun k _ => f2 k, fun k _ => f3 k, fun k _ => f4 k⟩
  exact ⟨σ', e, g2, RT_FR v1 f (by decide) (by decide), g1, RG_FR v3 f (by decide) (by decide) (by decide), RW_FR v4 f (by decide) (by decide), OUo_FR v5 f (by decide) (by decide), MV_FR v6 f (by decide) (by decide), MNa_FR v7 f (by decide) (by decide), RVc_dr (RVc_FR v8 f (by decide) (by decide) (by decide))⟩
theorem u_forget (hm : m ≤ h.length) (hv : RV σ fs gs ws n b a Y) : UM m h fs [] [] n b a Y (f_M_forget F m (mh m h σ)) := by
  obtain ⟨v1, v2, v3, v4, v5, v6, v7, v8⟩ := hv
  obtain ⟨σ', e, g0, g1, g2, f1, f2, f3, f4⟩ := q_forget (F := F) (σ := σ) hm
  have f : FR [0, 31, 32] [] [] [] σ σ' := ⟨fun k hk => by simp only [List.mem_cons, List.not_mem_nil, or_false, not_or] at hk; exact f1 k hk.1 hk.2.1 hk.2.2, fun k _ => f2 k, fun k _ => f3 k, fun k _ => f4 k⟩
  exact ⟨(), σ', e, RT_FR v1 f (by decide) (by decide), RF_FR v2 f (by decide) (by decide), g1, g2, OUo_FR v5 f (by decide) (by decide), MV_FR v6 f (by decide) (by decide), MNa_FR v7 f (by decide) (by decide), RVc_FR v8 f (by decide) (by decide) (by decide)⟩
theorem frG_FR (f : frG σ σ') : FR [0, 2, 31, 32] [] [33, 34, 35, 36] [37] σ σ' := ⟨fun k hk => by simp only [List.mem_cons, List.not_mem_nil, or_false, not_or] at hk; exact f.1 k hk.1 hk.2.1 hk.2.2.1 hk.2.2.2, fun k _ => f.2.1 k, fun k hk => by simp only [List.mem_cons, List.not_mem_nil, or_false, not_or] at hk; exact f.2.2.2 k hk.1 hk.2.1 hk.2.2.1 hk.2.2.2, fun k hk => by simp only [List.mem_cons, List.not_mem_nil, or_false] at hk; exact f.2.2.1 k hk⟩
theorem u_give {v : Int64} (hm : m ≤ h.length) (hF : 65540 < F) (hv : RV σ fs gs ws n b a Y) : ∃ σ', f_M_give F m v (mh m h σ) = some (nI (if gcd' b n (gs.map Prod.fst) = 0 then gs.length + 1 else 0), mh m h σ') ∧ gI σ' 0 = nI (gcd' b n (gs.map Prod.fst)) ∧ RV σ' fs (if gcd' b n (gs.map Prod.fst) = 0 then gs ++ [(tk b 0 n, v)] else gs) ws 0 (fun _ => 0) a Y := by
  obtain ⟨v1, v2, v3, v4, v5, v6, v7, v8⟩ := hv
  obtain ⟨σ', e, g0, f, g1, g2, g3⟩ := q_give (F := F) (v := v) hm (by omega) v1 v3 v4
  have f := frG_FR f
  exact ⟨σ', e, g0, g1, RF_FR v2 f (by decide) (by decide), g3, g2, OUo_FR v5 f (by decide) (by decide), MV_FR v6 f (by decide) (by decide), MNa_FR v7 f (by decide) (by decide), RVc_FR v8 f (by decide) (by decide) (by decide)⟩
theorem u_wish (hm : m ≤ h.length) (hF : 65540 < F) (hv : RV σ fs gs ws n b a Y) : ∃ σ', f_M_wish F m (mh m h σ) = some (nI (if gcd' b n ws = 0 then ws.length + 1 else 0), mh m h σ') ∧ gI σ' 0 = nI (gcd' b n ws) ∧ RV σ' fs gs (if gcd' b n ws = 0 then ws ++ [tk b 0 n] else ws) 0 (fun _ => 0) a Y := by
  obtain ⟨v1, v2, v3, v4, v5, v6, v7, v8⟩ := hv
  obtain ⟨σ', e, g0, f, g1, g2, g3⟩ := q_wish (F := F) hm (by omega) v1 v3 v4
  have f := frG_FR f
  exact ⟨σ', e, g0, g1, RF_FR v2 f (by decide) (by decide), g2, g3, OUo_FR v5 f (by decide) (by decide), MV_FR v6 f (by decide) (by decide), MNa_FR v7 f (by decide) (by decide), RVc_FR v8 f (by decide) (by decide) (by decide)⟩
theorem u_address (hm : m ≤ h.length) (hF : 65540 < F) (hv : RV σ fs gs ws n b a Y) : UM m h fs gs ws (if a = 0 then 0 else n) (if a = 0 then fun _ => 0 else b) a Y (f_M_address F m (mh m h σ)) := by
  obtain ⟨v1, v2, v3, v4, v5, v6, v7, v8⟩ := hv
  obtain ⟨nms, h1, _⟩ := v8.1.1
  obtain ⟨v, σ', e, _, g1, f, _⟩ := q_address (F := F) hm (by omega) v1 h1
  rw [v8.2.1] at g1
  exact ⟨v, σ', e, g1, RF_FR v2 f (by decide) (by decide), RG_FR v3 f (by decide) (by decide) (by decide), RW_FR v4 f (by decide) (by decide), OUo_FR v5 f (by decide) (by decide), MV_FR v6 f (by decide) (by decide), MNa_FR v7 f (by decide) (by decide), RVc_FR v8 f (by decide) (by decide) (by decide)⟩
theorem oG_lt (b : Nat → Nat) (i : Nat) : oG b i < 10 := by
  unfold oG
  repeat (first | omega | split)
/-- what a link leaves for the calls after it -/
theorem RVl_of {s : px_TK} {k : Nat} {ll : List Nat} {ad : Nat → Nat} {NA : px_NA} (es : s = taL fs (xs0 gs ws) (od0 gs)) (hL : LNP fs s σ) (h13 : gI σ 13 = nI k) (hk : k ≤ 4) (hd : k = 0 → LKD σ s.1.2.2.1) (hx : k = 0 → RLa σ (tQf s.2.2.1) (tB fs s.2.2.1) ll ∧ (∀ (P x : Nat), ll[P]? = some x → gB σ 57 P = lN (ad x)) ∧ (∀ j, j < (xsN s).length → gB σ 29 j = NA.1 j) ∧ LKZ σ (vFe NA.2.2.2.2) NA.2.1) : RVl σ fs (nI k) (lnY fs s ll ad NA) := by
  have hX := RX_link es hL hk hx
  obtain ⟨⟨l1, l2, l3, l4, l5, l6, l7, l8, l9⟩, k2, k3, k4, ⟨k5, k6⟩, on, R, rn, k7, k8, k9, k10⟩ := hL
  have hcp : CPs s := by rw [es]; exact CPs_taL
  have hlen : (xsN s).length = s.1.2.1.length := by
    have := congrArg List.length (xsN_fst (s := s))
    rw [List.length_map, List.length_map] at this
    exact this
  have hx : (xsN s).length ≤ 4096 := by have := l3.1.2.1; rw [List.length_map] at this; exact this
  have hnm : ∀ d, d < (xsN s).length → ∃ l, gA σ 22 d = nI l ∧ l ≤ 20 := fun d hd' => by
    have hk' : d < ((xsN s).map Prod.fst).length := by rw [List.length_map]; exact hd'
    obtain ⟨z1, z2, _⟩ := l3.1.2.2 d _ (List.getElem?_eq_getElem hk')
    exact ⟨_, z2, z1.1⟩
  refine ⟨⟨(xsN s).map Prod.fst, l3.1, fun q hq => ?_⟩, ⟨_, k10.2.1.1, k9.1⟩, fun h0 => ?_, hX⟩
  · rw [l8.1 q hq, l9 q hq]
    cases e : s.2.2.2 q with
    | none => exact Or.inr (Or.inl rfl)
    | some i => exact Or.inr (Or.inr ⟨i, by rw [List.length_map, hlen]; exact hcp q i e, rfl⟩)
  · have hk0 : k = 0 := (nI_eq (b := 0) (by omega) (by decide)).mp (h13.symm.trans h0)
    obtain ⟨⟨fe, fe1, fe2⟩, hok, th, th1, th2⟩ := hd hk0
    obtain ⟨o1, o2, o3⟩ := l4
    have hdx : ∀ i, i < s.1.2.2.1.length → s.1.2.2.1[i]? = some (s.1.2.2.1.getD i 0) := fun i hi => by rw [List.getD_eq_getElem?_getD, List.getElem?_eq_getElem hi]; rfl
    have hdl : ∀ i, i < s.1.2.2.1.length → s.1.2.2.1.getD i 0 < (xsN s).length := fun i hi => k5 _ (List.mem_of_getElem? (hdx i hi))
    obtain ⟨lf, hlf⟩ : ∃ lf : Nat → Nat, ∀ i, i < s.1.2.2.1.length → gA σ 22 (s.1.2.2.1.getD i 0) = nI (lf i) ∧ lf i ≤ 20 := by
      have key : ∀ i, ∃ l, i < s.1.2.2.1.length → gA σ 22 (s.1.2.2.1.getD i 0) = nI l ∧ l ≤ 20 := fun i => by
        by_cases hi : i < s.1.2.2.1.length
        · obtain ⟨l, w⟩ := hnm _ (hdl i hi)
          exact ⟨l, fun _ => w⟩
        · exact ⟨0, fun w => absurd w hi⟩
      exact ⟨fun i => (key i).choose, fun i => (key i).choose_spec⟩
    refine ⟨?_, fe, s.1.2.2.1.length, th, lf, fun i => s.1.2.2.1.getD i 0, ⟨fe1, fe2⟩, ⟨th1, th2⟩, o2, o1, fun i hi => ⟨o3 i _ (hdx i hi), (show s.1.2.2.1.getD i 0 < 4096 from Nat.lt_of_lt_of_le (hdl i hi) hx), (hlf i hi).1, (hlf i hi).2, hok i _ (hdx i hi)⟩⟩
    obtain ⟨ll, ell⟩ : ∃ ll, ll = layL s.2.2.1.length (tB fs s.2.2.1) (sta (tB fs s.2.2.1) s.2.1.1 on R) := ⟨_, rfl⟩
    rw [← ell] at k9 k10
    obtain ⟨tb, etb⟩ : ∃ tb, tb = tB fs s.2.2.1 := ⟨_, rfl⟩
    rw [← etb] at k9 k10
    have hxx : ∀ p, p < ll.length → ll[p]? = some (ll.getD p 0) := fun p hp => by rw [List.getD_eq_getElem?_getD, List.getElem?_eq_getElem hp]; rfl
    have hq : ∀ t, t < s.2.2.1.length → tQf s.2.2.1 t < 64 := fun t ht => by
      have w := RQ_of l2 k2.1 l7 t ht
      exact w.1
    refine ⟨ll.length, s.1.2.2.1.length, fun p => oZ (tb (ll.getD p 0 / 24)) (ll.getD p 0 % 24), fun p => ll.getD p 0 % 24, fun p => oG (tb (ll.getD p 0 / 24)) (ll.getD p 0 % 24), fun p => tQf s.2.2.1 (ll.getD p 0 / 24) / 8, fun p => tQf s.2.2.1 (ll.getD p 0 / 24) % 8, lf, fun i => s.1.2.2.1.getD i 0, ⟨k10.2.1.1, k9.1, fun p hp => ?_⟩, o2, o1, fun i hi => ⟨o3 i _ (hdx i hi), (show s.1.2.2.1.getD i 0 < 4096 from Nat.lt_of_lt_of_le (hdl i hi) hx), (hlf i hi).1, (hlf i hi).2⟩⟩
    obtain ⟨r1, r2, r3, r4, r5, r6⟩ := k9.2 p _ (hxx p hp)
    have hm := List.mem_of_getElem? (hxx p hp)
    have hz := (k10.2.2.2 _ hm).1
    have ht := (k10.2.1.2 _ hm).1
    have hq' := hq _ ht
    refine ⟨r6, ?_, r4, (show ll.getD p 0 % 24 ≤ 99999 by omega), r5, oG_lt _ _, r2, ?_, r3, ?_⟩
    · show oZ (tb (ll.getD p 0 / 24)) (ll.getD p 0 % 24) ≤ 99999
      have hz : oZ (tb (ll.getD p 0 / 24)) (ll.getD p 0 % 24) ≤ 16384 := hz
      exact Nat.le_trans hz (by decide)
    · show tQf s.2.2.1 (ll.getD p 0 / 24) / 8 < 10
      generalize tQf s.2.2.1 (ll.getD p 0 / 24) = x at *
      omega
    · show tQf s.2.2.1 (ll.getD p 0 / 24) % 8 < 10
      omega
theorem lnR_4 {rc : Bool} {B : Nat → Nat} {s : px_TK} {k : Nat} (hl : lnR fs gs ws rc B s k) (hs : s.1.1 ≤ 2) : k ≤ 4 := by
  have ha : anN fs ws s (xsN s) ≤ 2 := by unfold anN; repeat (first | omega | split)
  by_cases c : anN fs ws s (xsN s) = 0
  · obtain ⟨R, rn, _, fe0, bg0, G0, fe1, mem1, bg1, G1, fe2, mem2, bg2, G4, G5, G2, sp, G3, CM, fe3, _, e⟩ := hl.2.2 c
    rw [e]
    split
    · omega
    · split <;> omega
  · have := hl.2.1 c
    omega
theorem LKY_of {s : px_TK} {rc : Bool} {B : Nat → Nat} {k : Nat} {σ' : px_S} {P : Prop} (h : k = 0 → P ∧ LKY fs s rc B σ') : ∃ ll ad NA, (k = 0 → RLa σ' (tQf s.2.2.1) (tB fs s.2.2.1) ll ∧ (∀ (P x : Nat), ll[P]? = some x → gB σ' 57 P = lN (ad x)) ∧ (∀ j, j < (xsN s).length → gB σ' 29 j = NA.1 j) ∧ LKZ σ' (vFe NA.2.2.2.2) NA.2.1) ∧ (k = 0 → lnX fs s rc B ll ad NA) := by
  by_cases c : k = 0
  · obtain ⟨_, ll, ad, NA, x1, x2⟩ := h c
    exact ⟨ll, ad, NA, fun _ => x2, fun _ => x1⟩
  · exact ⟨[], fun _ => 0, na0, fun q => absurd q c, fun q => absurd q c⟩
theorem RV_Y {s : px_TK} {j : Nat} {ll ll' : List Nat} {ad ad' : Nat → Nat} {NA NA' : px_NA} (h : RV σ fs gs ws n b (nI j) (lnY fs s ll ad NA)) (hj : j ≤ 4) (hx : j = 0 → ll = ll' ∧ ad = ad' ∧ NA = NA') : RV σ fs gs ws n b (nI j) (lnY fs s ll' ad' NA') := by
  by_cases c : j = 0
  · obtain ⟨rfl, rfl, rfl⟩ := hx c
    exact h
  · obtain ⟨v1, v2, v3, v4, v5, v6, v7, ⟨c1, c2, c3, c4⟩, c5⟩ := h
    exact ⟨v1, v2, v3, v4, v5, v6, v7, ⟨c1, c2, c3, ⟨c4.1.1, fun ha => absurd ((nI_eq (b := 0) (by omega) (by decide)).mp ha) c⟩, fun ha => absurd ((nI_eq (b := 0) (by omega) (by decide)).mp ha) c⟩, c5⟩
theorem u_link {rc : Bool} {B : Nat → Nat} (hm : m ≤ h.length) (hF : 65540 < F) (hv : RV σ fs gs ws n b a Y) (hB : RB σ B) (hsum : (fs.map Prod.fst).sum ≤ 4096) : ∃ (σ' : px_S) (k : Nat) (s : px_TK) (ll : List Nat) (ad : Nat → Nat) (NA : px_NA), f_M_link F m (bI rc) (mh m h σ) = some (nI k, mh m h σ') ∧ k ≤ 4 ∧ lnR fs gs ws rc B s k ∧ RV σ' fs gs ws n b (nI k) (lnY fs s ll ad NA) ∧ (k = 0 → lnX fs s rc B ll ad NA) := by
  obtain ⟨v1, v2, v3, v4, v5, v6, v7, v8⟩ := hv
  obtain ⟨σ', k, s, e, q1, q2, q3, q4, q5, q6, q7, f, q9, _⟩ := q_link (rc := rc) (F := F) hm hF v2 v3 v4 ⟨v5.2, v5.1, v8.2.2.1, v8.2.2.2.1, v8.2.2.2.2.1, v8.2.2.2.2.2⟩ hB hsum
  have hk := lnR_4 q1 q3.2.1.1.1
  obtain ⟨ll, ad, NA, y1, y2⟩ := LKY_of q9
  exact ⟨σ', k, s, ll, ad, NA, e, hk, q1, ⟨ RT_FR v1 f (by decide) (by decide), q5, q6, q7, ⟨q4.2.1, q4.1⟩, MV_FR v6 f (by decide) (by decide), MNa_FR v7 f (by decide) (by decide), RVl_of q1.1 q3 q2 hk (fun q => (q9 q).1) y1, q2, q4.2.2.1, q4.2.2.2.1, q4.2.2.2.2.1, q4.2.2.2.2.2⟩, y2⟩
theorem u_merge {B : Nat → Nat} (hm : m ≤ h.length) (hF : 65540 < F) (hv : RV σ fs gs ws n b a Y) (hB : RB σ B) (hsum : (fs.map Prod.fst).sum ≤ 4096) : ∃ (v : Int32) (σ' : px_S) (k : Nat) (s : px_TK) (ll : List Nat) (ad : Nat → Nat) (NA : px_NA), f_M_merge F m (mh m h σ) = some (v, mh m h σ') ∧ k ≤ 4 ∧ lnR fs gs ws false B s k ∧ RV σ' fs gs ws n b (nI k) (lnY fs s ll ad NA) ∧ (k = 0 → lnX fs s false B ll ad NA) := by
  obtain ⟨v1, v2, v3, v4, v5, v6, v7, v8⟩ := hv
  obtain ⟨v, σ1, σ2, k, s, e, q1, q2, q3, q4, q5, q6, q7, f, q9, fE, hO⟩ := q_merge (F := F) hm hF v2 v3 v4 ⟨v5.2, v5.1, v8.2.2.1, v8.2.2.2.1, v8.2.2.2.2.1, v8.2.2.2.2.2⟩ hB hsum
  have hk := lnR_4 q1 q3.2.1.1.1
  obtain ⟨ll, ad, NA, y1, y2⟩ := LKY_of q9
  have h1 : RV σ1 fs gs ws n b (nI k) (lnY fs s ll ad NA) := ⟨RT_FR v1 f (by decide) (by decide), q5, q6, q7, ⟨q4.2.1, q4.1⟩, MV_FR v6 f (by decide) (by decide), MNa_FR v7 f (by decide) (by decide), RVl_of q1.1 q3 q2 hk (fun q => (q9 q).1) y1, q2, q4.2.2.1, q4.2.2.2.1, q4.2.2.2.2.1, q4.2.2.2.2.2⟩
  exact ⟨v, σ2, k, s, ll, ad, NA, e, hk, q1, RV_out h1 (FR_mono fE (by decide) (by decide) (by decide) (by decide)) hO, y2⟩
end MRW
end
section
/-! class and reference in one heap (steps spelled out by sf/pp.py) -/
/-- two states agree at cell a -/
def agr (τ τ' : px_TT) (a : Nat) : Prop := (∀ k, fI τ' a k = fI τ a k) ∧ (∀ k, fJ τ' a k = fJ τ a k) ∧ (∀ k, fN τ' a k = fN τ a k) ∧ eI τ' a = eI τ a ∧ eJ τ' a = eJ τ a ∧ eN τ' a = eN τ a
section BRG
variable {sk sk' : Nat → Nat × Nat × Nat} {L L' : Nat} {own : Nat → Nat × Nat} {τ τ' : px_TT} {σ σ' : px_S} {fs : List (Nat × (Nat → Nat))} {gs : List (List Nat × Int64)} {ws : List (List Nat)} {n : Nat} {b : Nat → Nat} {a : Int32} {Y : px_Y}
theorem cell_agr {x : Nat} (e : sk' x = sk x) (h : agr τ τ' x) : cell sk' τ' x = cell sk τ x := by
  obtain ⟨h1, h2, h3, h4, h5, h6⟩ := h
  have hc : ∀ ci, cv τ' ci x = cv τ ci x := fun ci => by
    funext k
    unfold cv
    rw [h1, h2, h3]
  unfold cell
  rw [e, hc, h4, h5, h6]
theorem CV_M (h : CV sk L own τ fs gs ws n b a Y) (e : EX sk L sk' L') (hA : ∀ x, (x < 1726 ∨ 1815 ≤ x) → agr τ τ' x) : CV sk' L' own τ' fs gs ws n b a Y := by
  obtain ⟨hS, hR, hn, hf, hg, hw, ht, hr, hz, hnd⟩ := h
  have hE : ∀ A, A < 1726 → eN τ' A = eN τ A := fun A hA' => (hA A (Or.inl hA')).2.2.2.2.2
  have cn : ∀ {N A : Nat} {vs : List (List Nat)}, CN sk L τ N A vs → (N = 140 ∨ N = 143) → (A = 141 ∨ A = 144) → CN sk' L' τ' N A vs := fun {N A vs} w hN' hA' => CN_mv w e ((hA N (by omega)).2.2.1 0) ((hA N (by omega)).1 2) (fun i _ => congrFun (hE A (by omega)) i) (fun i p _ hp => by
    have := (hn A i p (by omega) hp).1
    exact ⟨fun k _ => (hA p (by omega)).2.1 k, (hA p (by omega)).1 3⟩)
  refine ⟨⟨by have := e.1; have := hS.1; omega, fun x hx => (e.2 x (by have := hS.1; omega)).trans (hS.2 x hx)⟩, GR_mv hR (fun x k hx => (hA x (by omega)).2.2.1 k) (fun x k hx _ => (hA x (by omega)).1 k) (hE 9 (by decide)) (hE 151 (by decide)), fun A i p hA' hp => ?_, CF_mv hf e ⟨fun x k hx _ => (hA x (by omega)).1 k, fun x k hx => (hA x (by omega)).2.2.1 k, fun x hx => (hA x (by omega)).2.2.2.1⟩, ⟨cn hg.1 (Or.inl rfl) (Or.inl rfl), fun i x hx => ?_⟩, cn hw (Or.inr rfl) (Or.inr rfl), CTp_SI ht ((hA 1 (by omega)).1 1) (hA 2 (by omega)).2.2.2.1, CVr_fx hr e (fun x k hx => (hA x (by omega)).1 k) (fun k => (hA 1696 (by omega)).2.1 k) (fun x k hx => (hA x (by omega)).2.2.1 k) (fun x hx => (hA x (by omega)).2.2.2.1) (fun x hx => hE x (by omega)) (fun d p hp => ?_), CX_W hz e ⟨⟨(hA 1700 (by omega)).1 11, hE 1701 (by decide), fun x hx => ⟨fun k _ => (hA (152 + x) (by omega)).1 k, (hA (152 + x) (by omega)).2.1 11⟩⟩, ⟨hE 149 (by decide), (hA 148 (by omega)).2.2.1 0, (hA 148 (by omega)).1 2, fun i p hp => by
      have := (hn 149 i p (Or.inr (Or.inr rfl)) hp).1
      exact ⟨(hA p (by omega)).1 3, fun k => (hA p (by omega)).2.1 k⟩⟩, (hA 147 (by omega)).1 15, hE 1693 (by decide), (hA 1711 (by omega)).1 1, (hA 1703 (by omega)).2.2.2.1⟩ (fun q hq => ⟨(hA _ (by omega)).1 15, (hA _ (by omega)).1 16⟩), hnd.1, ((hA 147 (by omega)).1 18).trans hnd.2⟩
  · rw [hE A (by omega)] at hp
    obtain ⟨w1, w2, w3⟩ := hn A i p hA' hp
    exact ⟨w1, ob_ex w2 e, w3⟩
  · rw [hE 141 (by decide), ← hg.2 i x hx]
    refine (hA _ ?_).2.1 7
    cases hq : eN τ 141 i with
    | none => exact Or.inl (by decide)
    | some p => exact Or.inr (hn 141 i p (Or.inl rfl) hq).1
  · have := (hn 149 d p (Or.inr (Or.inr rfl)) hp).1
    exact ⟨(hA p (by omega)).1 5, (hA p (by omega)).2.2.1 6⟩
end BRG
/-- what stands at the reference's cells, and at the row of one long behind them -/
def kM (i : Nat) : Nat × Nat × Nat := if i = 0 then (0, 12, 0) else if i = 88 then (1, 2, 1) else (1, (mr (mA.getD (i - 1) 0)).2.2.1, (mr (mA.getD (i - 1) 0)).2.2.2)
def SKm (sk : Nat → Nat × Nat × Nat) : Prop := ∀ i, i < 89 → sk (1726 + i) = kM i
/-- the reference's cells hold the state σ -/
def MQs (τ : px_TT) (σ : px_S) : Prop := (∀ k, fI τ 1726 k = gI σ k) ∧ (∀ k, fJ τ 1726 k = gJ σ k) ∧ (∀ k, k < 130 → 2 ≤ (mr k).1 → fN τ 1726 k = some (1726 + (mr k).2.1)) ∧ ∀ i, i < 87 → eI τ (1727 + i) = gA σ (mA.getD i 0) ∧ eJ τ (1727 + i) = gB σ (mA.getD i 0)
theorem mr_kd : ∀ k, k < 130 → ((mr k).1 = 0 ∧ cF 12 k = 0) ∨ ((mr k).1 = 1 ∧ cF 12 k = 1) ∨ (2 ≤ (mr k).1 ∧ cF 12 k = 2) := by decide +kernel
theorem mA_kd : ∀ i, i < 87 → ((mr (mA.getD i 0)).1 = 2 ∧ (mr (mA.getD i 0)).2.2.1 ≠ 2 ∧ (mr (mA.getD i 0)).2.2.1 ≤ 3) ∨ ((mr (mA.getD i 0)).1 = 3 ∧ (mr (mA.getD i 0)).2.2.1 = 2) := by decide +kernel
theorem cN_12 : cN 12 = 130 := by decide +kernel
theorem mA_ln : mA.length = 87 := by decide +kernel
section BRH
variable {sk sk' : Nat → Nat × Nat × Nat} {L L' : Nat} {own : Nat → Nat × Nat} {τ τ' : px_TT} {σ σ' : px_S}
theorem cv_M (hq : MQs τ σ) {k : Nat} (hk : k < 130) : cv τ 12 1726 k = fv 1726 σ k := by
  obtain ⟨q1, q2, q3, _⟩ := hq
  unfold cv fv
  rcases mr_kd k hk with ⟨e1, e2⟩ | ⟨e1, e2⟩ | ⟨e1, e2⟩
  · rw [if_pos e2, if_pos e1, q1]
  · rw [if_neg (by rw [e2]; decide), if_pos e2, if_neg (by rw [e1]; decide), if_pos e1, q2]
  · rw [if_neg (by rw [e2]; decide), if_neg (by rw [e2]; decide), if_neg (by omega), if_neg (by omega), q3 k hk e1]
    rfl
theorem cell_M (hk : SKm sk) (hq : MQs τ σ) {i : Nat} (hi : i < 88) : (mcs 1726 σ)[i]? = some (cell sk τ (1726 + i)) := by
  have e := hk i (by omega)
  cases i with
  | zero =>
    have e : sk 1726 = (0, 12, 0) := e
    show some (Sum.inr (12, mfs 1726 σ)) = some (cell sk τ 1726)
    unfold cell
    rw [e, if_pos rfl]
    show _ = some (Sum.inr (12, (List.range (cN 12)).map (cv τ 12 1726)))
    rw [cN_12]
    unfold mfs
    congr 3
    apply List.map_congr_left
    intro k hk'
    exact (cv_M hq (List.mem_range.mp hk')).symm
  | succ j =>
    have hj : j < 87 := by omega
    have e1 : kM (j + 1) = (1, (mr (mA.getD j 0)).2.2.1, (mr (mA.getD j 0)).2.2.2) := by
      unfold kM
      rw [if_neg (by omega), if_neg (by omega), Nat.add_sub_cancel]
    rw [e1] at e
    have h4 := hq.2.2.2 j hj
    rw [show 1727 + j = 1726 + (j + 1) by omega] at h4
    show (mA.map (arr σ))[j]? = _
    rw [List.getElem?_map, List.getElem?_eq_getElem (by rw [mA_ln]; exact hj)]
    have eg : mA[j]'(by rw [mA_ln]; exact hj) = mA.getD j 0 := by rw [List.getD_eq_getElem?_getD, List.getElem?_eq_getElem (by rw [mA_ln]; exact hj)]; rfl
    rw [eg]
    show some (arr σ (mA.getD j 0)) = _
    have kd := mA_kd j hj
    generalize mA.getD j 0 = g at *
    unfold cell arr
    rw [e, h4.1, h4.2]
    dsimp only
    rw [if_neg (show ¬ (1 = 0) by decide)]
    rcases kd with ⟨d1, d2, d3⟩ | ⟨d1, d2⟩
    · rw [if_pos d1, if_neg d2, if_pos d3]
    · rw [if_neg (by rw [d1]; decide), if_pos d2, d2]
theorem cH_M (hk : SKm sk) (hq : MQs τ σ) (hL : 1815 ≤ L) : cH sk L τ = mh 1726 (cH sk L τ) σ := by
  have e : ((cH sk L τ).drop 1726).take 88 = mcs 1726 σ := by
    apply List.ext_getElem?
    intro i
    by_cases hi : i < 88
    · rw [List.getElem?_take_of_lt hi, List.getElem?_drop, cH_at (by omega), cell_M hk hq hi]
    · rw [List.getElem?_eq_none (by rw [List.length_take]; omega), List.getElem?_eq_none (by rw [mcs_len]; omega)]
  unfold mh
  rw [← e, show (cH sk L τ).drop (1726 + 88) = ((cH sk L τ).drop 1726).drop 88 from by rw [List.drop_drop], List.take_append_drop, List.take_append_drop]
/-- the state with other contents of the reference's cells -/
def tM (τ : px_TT) (σ : px_S) : px_TT := (fun x k => if x = 1726 then gI σ k else fI τ x k, fun x k => if x = 1726 then gJ σ k else fJ τ x k, τ.2.2.1, fun x => if 1727 ≤ x ∧ x < 1814 then gA σ (mA.getD (x - 1727) 0) else eI τ x, fun x => if 1727 ≤ x ∧ x < 1814 then gB σ (mA.getD (x - 1727) 0) else eJ τ x, τ.2.2.2.2.2)
theorem agr_tM {x : Nat} (h : x < 1726 ∨ 1814 ≤ x) : agr τ (tM τ σ) x := by
  refine ⟨fun k => ?_, fun k => ?_, fun k => rfl, ?_, ?_, rfl⟩
  · show (if x = 1726 then gI σ k else fI τ x k) = _
    rw [if_neg (by omega)]
  · show (if x = 1726 then gJ σ k else fJ τ x k) = _
    rw [if_neg (by omega)]
  · show (if 1727 ≤ x ∧ x < 1814 then gA σ (mA.getD (x - 1727) 0) else eI τ x) = _
    rw [if_neg (by omega)]
  · show (if 1727 ≤ x ∧ x < 1814 then gB σ (mA.getD (x - 1727) 0) else eJ τ x) = _
    rw [if_neg (by omega)]
theorem MQs_tM (hq : MQs τ σ) : MQs (tM τ σ') σ' := by
  refine ⟨fun k => ?_, fun k => ?_, hq.2.2.1, fun i hi => ⟨?_, ?_⟩⟩
  · show (if 1726 = 1726 then gI σ' k else fI τ 1726 k) = _
    rw [if_pos rfl]
  · show (if 1726 = 1726 then gJ σ' k else fJ τ 1726 k) = _
    rw [if_pos rfl]
  · show (if 1727 ≤ 1727 + i ∧ 1727 + i < 1814 then gA σ' (mA.getD (1727 + i - 1727) 0) else eI τ (1727 + i)) = _
    rw [if_pos (by omega), Nat.add_sub_cancel_left]
  · show (if 1727 ≤ 1727 + i ∧ 1727 + i < 1814 then gB σ' (mA.getD (1727 + i - 1727) 0) else eJ τ (1727 + i)) = _
    rw [if_pos (by omega), Nat.add_sub_cancel_left]
theorem cH_tM (hk : SKm sk) (hq : MQs τ σ) (hL : 1815 ≤ L) : mh 1726 (cH sk L τ) σ' = cH sk L (tM τ σ') := by
  rw [cH_M hk (MQs_tM (σ' := σ') hq) hL]
  have h1 : ∀ x, (x < 1726 ∨ 1814 ≤ x) → (cH sk L (tM τ σ'))[x]? = (cH sk L τ)[x]? := fun x hx => by
    by_cases hxl : x < L
    · rw [cH_at hxl, cH_at hxl, cell_agr rfl (agr_tM hx)]
    · rw [List.getElem?_eq_none (by rw [cH_len]; omega), List.getElem?_eq_none (by rw [cH_len]; omega)]
  have e1 : (cH sk L (tM τ σ')).take 1726 = (cH sk L τ).take 1726 := by
    apply List.ext_getElem?
    intro i
    by_cases hi : i < 1726
    · rw [List.getElem?_take_of_lt hi, List.getElem?_take_of_lt hi, h1 i (Or.inl hi)]
    · rw [List.getElem?_eq_none (by rw [List.length_take]; omega), List.getElem?_eq_none (by rw [List.length_take]; omega)]
  have e2 : (cH sk L (tM τ σ')).drop (1726 + 88) = (cH sk L τ).drop (1726 + 88) := by
    apply List.ext_getElem?
    intro i
    rw [List.getElem?_drop, List.getElem?_drop, h1 _ (Or.inr (by omega))]
  unfold mh
  rw [e1, e2]
theorem MQs_K (hq : MQs τ σ) (h : K26 τ τ') : MQs τ' σ := by
  obtain ⟨q1, q2, q3, q4⟩ := hq
  obtain ⟨a1, a2, a3, a4, a5, a6⟩ := h 1726 (by decide) (by decide)
  refine ⟨fun k => (a1 k).trans (q1 k), fun k => (a2 k).trans (q2 k), fun k hk h2 => (a3 k).trans (q3 k hk h2), fun i hi => ?_⟩
  obtain ⟨b1, b2, b3, b4, b5, b6⟩ := h (1727 + i) (by omega) (by omega)
  exact ⟨b4.trans (q4 i hi).1, b5.trans (q4 i hi).2⟩
theorem SKm_EX (hk : SKm sk) (e : EX sk L sk' L') (hL : 1815 ≤ L) : SKm sk' := fun i hi => (e.2 _ (by omega)).trans (hk i hi)
/-- an exception's cell -/
theorem cH_ex {ci : Nat} (hc : cN ci = 0) : cH sk L τ ++ [.inr (ci, [])] = cH (skN sk L ci) (L + 1) τ ∧ EX sk L (skN sk L ci) (L + 1) := by
  have hlt : ∀ x, x < L → skN sk L ci x = sk x := fun x hx => by unfold skN; rw [if_neg (by omega)]
  refine ⟨?_, by omega, hlt⟩
  apply List.ext_getElem?
  intro i
  by_cases hi : i < L
  · rw [List.getElem?_append_left (by rw [cH_len]; exact hi), cH_at hi, cH_at (by omega), cell_agr (hlt i hi) ⟨fun _ => rfl, fun _ => rfl, fun _ => rfl, rfl, rfl, rfl⟩]
  · by_cases e : i = L
    · subst e
      rw [List.getElem?_append_right (by rw [cH_len]; omega), cH_len, Nat.sub_self, cH_at (by omega)]
      unfold cell
      rw [show skN sk i ci i = (0, ci, 0) by unfold skN; rw [if_pos rfl]]
      dsimp only
      rw [if_pos rfl, hc]
      rfl
    · rw [List.getElem?_eq_none (by rw [List.length_append, cH_len]; simp; omega), List.getElem?_eq_none (by rw [cH_len]; omega)]
end BRH
/-- room for the names of one link -/
theorem rmT_b {fs : px_FS} (hf : FSo fs) (hs : (fs.map Prod.fst).sum ≤ 4096) : rmT fs [] ≤ 170 := by
  have h1 : ∀ q, 24 * omQ fs q ≤ szQ fs q := fun q => by
    unfold omQ szQ
    cases e : obAt fs q with
    | none => exact Nat.le_refl _
    | some y =>
      show 24 * (if y.2.2.2 = true then 0 else oM y.2.2.1) ≤ y.2.1
      by_cases c : y.2.2.2 = true
      · rw [if_pos c]; omega
      · rw [if_neg c]
        obtain ⟨o, n, b, z⟩ := y
        have hz : z = false := Bool.eq_false_iff.mpr c
        subst hz
        exact oM_n (hf q o n b e).2
  have h2 : ∀ N, 24 * smN (omQ fs) N ≤ smN (szQ fs) N := fun N => by
    induction N with
    | zero => exact Nat.le_refl _
    | succ N ih =>
      rw [smN_s, smN_s]
      have := h1 N
      omega
  have h3 := h2 64
  have h4 := szQ_all (fs := fs)
  unfold rmT
  omega
end
section
/-! a call of the class and the same call of the reference (steps spelled out by sf/pp.py) -/
/-- f: what the class answers, g: what it throws (the exception's class), q: what the reference answers -/
def BT {α β : Type} (Rn : α → β → px_S → Prop) (Rt : Nat → px_S → Prop) (sk : Nat → Nat × Nat × Nat) (L : Nat) (τ : px_TT) (k N : Nat) (f : Option (α × px_H)) (g : Option (Nat × px_H)) (q : px_H → Option (β × px_H)) : Prop := ∃ fs gs ws n b a Y, n + (List.map Prod.fst fs).sum ≤ N ∧ ((∃ v sk' L' τ' own', f = some (v, cH sk' L' τ') ∧ EX sk L sk' L' ∧ K26 τ τ' ∧ RMk sk' L' k ∧ CV sk' L' own' τ' fs gs ws n b a Y ∧ ∀ h : px_H, 1726 ≤ h.length → ∃ w σ', q h = some (w, mh 1726 h σ') ∧ RV σ' fs gs ws n b a Y ∧ Rn v w σ') ∨ ∃ ci τ' own', g = some (ci, cH sk L τ') ∧ K26 τ τ' ∧ RMk sk L (k + 1) ∧ CV sk L own' τ' fs gs ws n b a Y ∧ ∀ h : px_H, 1726 ≤ h.length → ∃ w σ', q h = some (w, mh 1726 h σ') ∧ RV σ' fs gs ws n b a Y ∧ Rt ci σ')
theorem BT_mono {α β : Type} {Rn Rn' : α → β → px_S → Prop} {Rt Rt' : Nat → px_S → Prop} {sk : Nat → Nat × Nat × Nat} {L : Nat} {τ : px_TT} {k N : Nat} {f : Option (α × px_H)} {g : Option (Nat × px_H)} {q : px_H → Option (β × px_H)} (h : BT Rn Rt sk L τ k N f g q) (h1 : ∀ v w σ, Rn v w σ → Rn' v w σ) (h2 : ∀ c σ, Rt c σ → Rt' c σ) : BT Rn' Rt' sk L τ k N f g q := by
  obtain ⟨fs, gs, ws, n, b, a, Y, hN, h⟩ := h
  refine ⟨fs, gs, ws, n, b, a, Y, hN, ?_⟩
  rcases h with ⟨v, sk', L', τ', own', e1, e2, e3, e4, e5, e6⟩ | ⟨ci, τ', own', e1, e2, e3, e4, e5⟩
  · refine Or.inl ⟨v, sk', L', τ', own', e1, e2, e3, e4, e5, fun h hl => ?_⟩
    obtain ⟨w, σ', a1, a2, a3⟩ := e6 h hl
    exact ⟨w, σ', a1, a2, h1 _ _ _ a3⟩
  · refine Or.inr ⟨ci, τ', own', e1, e2, e3, e4, fun h hl => ?_⟩
    obtain ⟨w, σ', a1, a2, a3⟩ := e5 h hl
    exact ⟨w, σ', a1, a2, h2 _ _ a3⟩
theorem RMk_le {sk : Nat → Nat × Nat × Nat} {L k k' : Nat} (h : RMk sk L k') (hk : k ≤ k') : RMk sk L k := by
  unfold RMk at *
  omega
theorem nI_18 {y : Int32} (h1 : ¬ y < nI 1) (h2 : y ≤ nI 8) : ∃ w, 1 ≤ w ∧ w ≤ 8 ∧ y = nI w := by
  rw [Int32.lt_iff_toInt_lt] at h1
  rw [Int32.le_iff_toInt_le] at h2
  have e1 : (nI 1).toInt = 1 := by decide
  have e8 : (nI 8).toInt = 8 := by decide
  rw [e1] at h1
  rw [e8] at h2
  have h0 : ¬ y < 0 := by
    rw [Int32.lt_iff_toInt_lt]
    have e0 : (0 : Int32).toInt = 0 := by decide
    omega
  obtain ⟨k, hk, rfl⟩ := nI_of h0
  rw [nI_toInt hk] at h1 h2
  exact ⟨k, by omega, by omega, rfl⟩
abbrev Rn0 {α β : Type} : α → β → px_S → Prop := fun _ _ _ => True
section BTH
variable {F : Nat} {c : px_CT} {sk sk' : Nat → Nat × Nat × Nat} {L L' : Nat} {own : Nat → Nat × Nat} {τ τ' : px_TT} {σ : px_S} {fs : List (Nat × (Nat → Nat))} {gs : List (List Nat × Int64)} {ws : List (List Nat)} {n : Nat} {b : Nat → Nat} {a : Int32} {Y : px_Y} {k N : Nat}
theorem BT_SI {α β : Type} {V : α → Prop} {Rt : Nat → px_S → Prop} {f : Option (α × px_H)} {g : Option (Nat × px_H)} {q : px_H → Option (β × px_H)} (hC : CV sk L own τ fs gs ws n b a Y) (hm : RMk sk L (k + 210)) (hN : n + (fs.map Prod.fst).sum ≤ N) (w : Sf sk L (SI none sk L τ) V f) (u : ∀ h : px_H, 1726 ≤ h.length → UM 1726 h fs gs ws n b a Y (q h)) : BT Rn0 Rt sk L τ k N f g q := by
  obtain ⟨v, τ', e, _, hI⟩ := w
  refine ⟨fs, gs, ws, n, b, a, Y, hN, Or.inl ⟨v, sk, L, τ', own, e, EX_refl, K26_Z hI.1, RMk_le hm (by omega), CV_SI hC hI, fun h hl => ?_⟩⟩
  obtain ⟨w, σ', e1, e2⟩ := u h hl
  exact ⟨w, σ', e1, e2, trivial⟩
theorem BT_T {α β : Type} {Rt : Nat → px_S → Prop} {Rn : α → β → px_S → Prop} {f : Option (α × px_H)} {g : Option (Nat × px_H)} {q : px_H → Option (β × px_H)} {ci : Nat} (hC : CV sk L own τ fs gs ws n b a Y) (hm : RMk sk L (k + 210)) (hN : n + (fs.map Prod.fst).sum ≤ N) (hg : g = some (ci, cH sk L τ)) (hR : ∀ σ, Rt ci σ) (u : ∀ h : px_H, 1726 ≤ h.length → UM 1726 h fs gs ws n b a Y (q h)) : BT Rn Rt sk L τ k N f g q := by
  refine ⟨fs, gs, ws, n, b, a, Y, hN, Or.inr ⟨ci, τ, own, hg, K26_refl τ, RMk_le hm (by omega), hC, fun h hl => ?_⟩⟩
  obtain ⟨w, σ', e1, e2⟩ := u h hl
  exact ⟨w, σ', e1, e2, hR _⟩
theorem B_look {x : Int32} (hF : 65540 < F) (hC : CV sk L own τ fs gs ws n b a Y) (hR : RV σ fs gs ws n b a Y) (hm : RMk sk L (k + 210)) (hN : n + (fs.map Prod.fst).sum ≤ N) : BT Rn0 (fun ci _ => ci = 13) sk L τ k N (f_H_look F c 0 x (cH sk L τ)) (g_H_look F c 0 x (cH sk L τ)) (fun h => f_M_look F 1726 x (mh 1726 h σ)) := by
  by_cases c1 : x < 0
  · exact BT_T hC hm hN (by unfold g_H_look g_H_look_10; rw [if_pos c1]) (fun _ => rfl) (fun h hl => u_look hl hR)
  · by_cases c2 : x ≤ nI 18
    · exact BT_SI hC hm hN (sf_Hlook (CV_S4 hC).1.1.1 hF (SI_self hC) c1 c2) (fun h hl => u_look hl hR)
    · exact BT_T hC hm hN (by unfold g_H_look g_H_look_10; rw [if_neg c1, if_neg c2]) (fun _ => rfl) (fun h hl => u_look hl hR)
theorem B_out {x : Int32} (hF : 65540 < F) (hC : CV sk L own τ fs gs ws n b a Y) (hR : RV σ fs gs ws n b a Y) (hm : RMk sk L (k + 210)) (hN : n + (fs.map Prod.fst).sum ≤ N) : BT Rn0 (fun ci _ => ci = 15) sk L τ k N (f_H_out F c 0 x (cH sk L τ)) (g_H_out F c 0 x (cH sk L τ)) (fun h => f_M_out F 1726 x (mh 1726 h σ)) := by
  rcases sf_Hout (F := F) (c := c) (i := x) (CV_S4 hC).1.1.1 hF (SI_self hC) with c1 | ⟨r, e1, e2, e3⟩ | w
  · exact BT_T hC hm hN (by unfold g_H_out g_H_out_15; rw [if_pos c1]) (fun _ => rfl) (fun h hl => u_out hl hF hR)
  · refine BT_T hC hm hN ?_ (fun _ => rfl) (fun h hl => u_out hl hF hR)
    unfold g_H_out g_H_out_15
    by_cases c1 : x < 0
    · rw [if_pos c1]
    · rw [if_neg c1, C0r1 (G0 hC.1) e1, bs, C10g1 e2, bs, if_neg e3]
  · exact BT_SI hC hm hN w (fun h hl => u_out hl hF hR)
theorem B_taken {x y : Int32} (hC : CV sk L own τ fs gs ws n b a Y) (hR : RV σ fs gs ws n b a Y) (hm : RMk sk L (k + 210)) (hN : n + (fs.map Prod.fst).sum ≤ N) : BT Rn0 (fun ci _ => ci = 15) sk L τ k N (f_H_taken F c 0 x y (cH sk L τ)) (g_H_taken F c 0 x y (cH sk L τ)) (fun h => f_M_taken F 1726 x y (mh 1726 h σ)) := by
  rcases sf_Htaken (F := F) (c := c) (i := x) (k := y) (CV_S4 hC) (SI_self hC) with e | w
  · exact BT_T hC hm hN (by unfold g_H_taken; rw [c_o (G0 hC.1), bs, e, xb_mk]) (fun _ => rfl) (fun h hl => u_taken hl hR)
  · exact BT_SI hC hm hN w (fun h hl => u_taken hl hR)
theorem B_cause {x y : Int32} (hF : 65540 < F) (hC : CV sk L own τ fs gs ws n b a Y) (hR : RV σ fs gs ws n b a Y) (hm : RMk sk L (k + 210)) (hN : n + (fs.map Prod.fst).sum ≤ N) : BT Rn0 (fun ci _ => ci = 15) sk L τ k N (f_H_cause F c 0 x y (cH sk L τ)) (g_H_cause F c 0 x y (cH sk L τ)) (fun h => f_M_cause F 1726 x y (mh 1726 h σ)) := by
  rcases sf_Hcause (F := F) (c := c) (i := x) (k := y) (CV_S4 hC) hF (SI_self hC) with e | w
  · exact BT_T hC hm hN (by unfold g_H_cause; rw [c_o (G0 hC.1), bs, e, xb_mk]) (fun _ => rfl) (fun h hl => u_cause hl hF hR)
  · exact BT_SI hC hm hN w (fun h hl => u_cause hl hF hR)
theorem B_list {x y : Int32} (hF : 65540 < F) (hC : CV sk L own τ fs gs ws n b a Y) (hR : RV σ fs gs ws n b a Y) (hm : RMk sk L (k + 210)) (hN : n + (fs.map Prod.fst).sum ≤ N) : BT Rn0 (fun ci _ => ci = 15) sk L τ k N (f_H_list F c 0 x y (cH sk L τ)) (g_H_list F c 0 x y (cH sk L τ)) (fun h => f_M_list F 1726 x y (mh 1726 h σ)) := by
  rcases sf_Hlist (F := F) (c := c) (i := x) (k := y) (CV_S4 hC) hF (SI_self hC) with e | w
  · exact BT_T hC hm hN (by unfold g_H_list; rw [c_o (G0 hC.1), bs, e, xb_mk]) (fun _ => rfl) (fun h hl => u_list hl hF hR)
  · exact BT_SI hC hm hN w (fun h hl => u_list hl hF hR)
theorem B_sum {x y z : Int32} (hF : 65540 < F) (hC : CV sk L own τ fs gs ws n b a Y) (hR : RV σ fs gs ws n b a Y) (hm : RMk sk L (k + 210)) (hN : n + (fs.map Prod.fst).sum ≤ N) : BT Rn0 (fun ci _ => ci = 15) sk L τ k N (f_H_sum F c 0 x y z (cH sk L τ)) (g_H_sum F c 0 x y z (cH sk L τ)) (fun h => f_M_sum F 1726 x y z (mh 1726 h σ)) := by
  rcases sf_Hsum (F := F) (c := c) (i := x) (k := y) (g := z) (CV_S4 hC) hF (SI_self hC) with e | ⟨q, e, hz⟩ | w
  · exact BT_T hC hm hN (by unfold g_H_sum g_H_sum_22; rw [c_o (G0 hC.1), bs, e, xb_mk]) (fun _ => rfl) (fun h hl => u_sum hl hF hR)
  · refine BT_T hC hm hN ?_ (fun _ => rfl) (fun h hl => u_sum hl hF hR)
    unfold g_H_sum g_H_sum_22
    rw [c_o (G0 hC.1), bs, e, xb_mk]
    dsimp only
    by_cases c1 : z < 0
    · rw [if_pos c1]
    · rw [if_neg c1, if_neg (hz.resolve_left c1)]
  · exact BT_SI hC hm hN w (fun h hl => u_sum hl hF hR)
theorem B_section {x y : Int32} (hC : CV sk L own τ fs gs ws n b a Y) (hR : RV σ fs gs ws n b a Y) (hm : RMk sk L (k + 210)) (hN : n + (fs.map Prod.fst).sum ≤ N) : BT Rn0 (fun ci _ => ci = 14 ∨ ci = 15) sk L τ k N (f_H_section F c 0 x y (cH sk L τ)) (g_H_section F c 0 x y (cH sk L τ)) (fun h => f_M_section F 1726 x y (mh 1726 h σ)) := by
  have u : ∀ h : px_H, 1726 ≤ h.length → UM 1726 h fs gs ws n b a Y (f_M_section F 1726 x y (mh 1726 h σ)) := fun h hl => u_section hl hR
  have o0 := G0 hC.1
  have r11 := C0r11 (τ := τ) o0 (GR_r (v := 147) hC.2.1 (by decide))
  have r13 := C0r13 (τ := τ) o0 (GR_r (v := 1700) hC.2.1 (by decide))
  have g11 := C2g11 (τ := τ) (a := 1700) (GS_o hC.1 (by decide) (by decide))
  have g18 := C3g18 (τ := τ) (G147 hC.1)
  by_cases c0 : fI τ 147 18 = 0
  · by_cases c1 : x < 0
    · exact BT_T hC hm hN (by unfold g_H_section g_H_section_44; rw [r11, bs, g18, bs, if_pos c0, if_pos c1]) (fun _ => Or.inr rfl) u
    · by_cases c2 : fI τ 1700 11 ≤ x
      · exact BT_T hC hm hN (by unfold g_H_section g_H_section_44; rw [r11, bs, g18, bs, if_pos c0, if_neg c1, r13, bs, g11, bs, if_pos c2]) (fun _ => Or.inr rfl) u
      · by_cases c3 : y < 0
        · exact BT_T hC hm hN (by unfold g_H_section g_H_section_44; rw [r11, bs, g18, bs, if_pos c0, if_neg c1, r13, bs, g11, bs, if_neg c2, if_pos c3]) (fun _ => Or.inr rfl) u
        · by_cases c4 : y ≤ nI 4
          · exact BT_SI hC hm hN (sf_Hsection (CV_S4 hC) (SI_self hC) c0 c1 c2 c3 c4) u
          · exact BT_T hC hm hN (by unfold g_H_section g_H_section_44; rw [r11, bs, g18, bs, if_pos c0, if_neg c1, r13, bs, g11, bs, if_neg c2, if_neg c3, if_neg c4]) (fun _ => Or.inr rfl) u
  · exact BT_T hC hm hN (by unfold g_H_section; rw [r11, bs, g18, bs, if_neg c0]) (fun _ => Or.inl rfl) u
theorem B_place {x : Int32} (hC : CV sk L own τ fs gs ws n b a Y) (hR : RV σ fs gs ws n b a Y) (hm : RMk sk L (k + 210)) (hN : n + (fs.map Prod.fst).sum ≤ N) : BT Rn0 (fun ci _ => ci = 14 ∨ ci = 15) sk L τ k N (f_H_place F c 0 x (cH sk L τ)) (g_H_place F c 0 x (cH sk L τ)) (fun h => f_M_place F 1726 x (mh 1726 h σ)) := by
  have u : ∀ h : px_H, 1726 ≤ h.length → UM 1726 h fs gs ws n b a Y (f_M_place F 1726 x (mh 1726 h σ)) := fun h hl => u_place hl hR
  have o0 := G0 hC.1
  have r11 := C0r11 (τ := τ) o0 (GR_r (v := 147) hC.2.1 (by decide))
  have r13 := C0r13 (τ := τ) o0 (GR_r (v := 1700) hC.2.1 (by decide))
  have g11 := C2g11 (τ := τ) (a := 1700) (GS_o hC.1 (by decide) (by decide))
  have g18 := C3g18 (τ := τ) (G147 hC.1)
  by_cases c0 : fI τ 147 18 = 0
  · by_cases c1 : x < 0
    · exact BT_T hC hm hN (by unfold g_H_place g_H_place_35; rw [r11, bs, g18, bs, if_pos c0, if_pos c1]) (fun _ => Or.inr rfl) u
    · by_cases c2 : x < fI τ 1700 11
      · exact BT_SI hC hm hN (sf_Hplace (CV_S4 hC) (SI_self hC) c0 c1 c2) u
      · exact BT_T hC hm hN (by unfold g_H_place g_H_place_35; rw [r11, bs, g18, bs, if_pos c0, if_neg c1, r13, bs, g11, bs, if_neg c2]) (fun _ => Or.inr rfl) u
  · exact BT_T hC hm hN (by unfold g_H_place; rw [r11, bs, g18, bs, if_neg c0]) (fun _ => Or.inl rfl) u
theorem B_named (hK : KT c) (hF : 65540 < F) (hC : CV sk L own τ fs gs ws n b a Y) (hR : RV σ fs gs ws n b a Y) (hm : RMk sk L (k + 210)) (hN : n + (fs.map Prod.fst).sum ≤ N) : BT Rn0 (fun ci _ => ci = 14) sk L τ k N (f_H_named F c 0 (cH sk L τ)) (g_H_named F c 0 (cH sk L τ)) (fun h => f_M_named F 1726 (mh 1726 h σ)) := by
  by_cases c0 : fI τ 147 18 = 0
  · exact BT_SI hC hm hN (sf_Hnamed (CV_S4 hC).1 hK hF (SI_self hC) c0) (fun h hl => u_named hl hF hR)
  · exact BT_T hC hm hN (by unfold g_H_named; rw [C0r11 (G0 hC.1) (GR_r (v := 147) hC.2.1 (by decide)), bs, C3g18 (G147 hC.1), bs, if_neg c0]) (fun _ => rfl) (fun h hl => u_named hl hF hR)
theorem B_map (hF : 65540 < F) (hC : CV sk L own τ fs gs ws n b a Y) (hR : RV σ fs gs ws n b a Y) (hm : RMk sk L (k + 210)) (hN : n + (fs.map Prod.fst).sum ≤ N) : BT Rn0 (fun ci _ => ci = 14) sk L τ k N (f_H_map F c 0 (cH sk L τ)) (g_H_map F c 0 (cH sk L τ)) (fun h => f_M_map F 1726 (mh 1726 h σ)) := by
  by_cases c0 : fI τ 147 18 = 0
  · exact BT_SI hC hm hN (sf_Hmap (CV_S4 hC).1 hF (SI_self hC) c0) (fun h hl => u_map hl hF hR)
  · exact BT_T hC hm hN (by unfold g_H_map; rw [C0r11 (G0 hC.1) (GR_r (v := 147) hC.2.1 (by decide)), bs, C3g18 (G147 hC.1), bs, if_neg c0]) (fun _ => rfl) (fun h hl => u_map hl hF hR)
theorem B_near {x : Int64} (hF : 65540 < F) (hC : CV sk L own τ fs gs ws n b a Y) (hR : RV σ fs gs ws n b a Y) (hm : RMk sk L (k + 210)) (hN : n + (fs.map Prod.fst).sum ≤ N) : BT Rn0 (fun _ _ => False) sk L τ k N (f_H_near F c 0 x (cH sk L τ)) none (fun h => f_M_near F 1726 x (mh 1726 h σ)) := BT_SI hC hm hN (sf_Hnear (CV_S4 hC).1.1.1 hF (SI_self hC)) (fun h hl => u_near hl hF hR)
theorem B_peek {x : Int64} (hF : 65540 < F) (hC : CV sk L own τ fs gs ws n b a Y) (hR : RV σ fs gs ws n b a Y) (hm : RMk sk L (k + 210)) (hN : n + (fs.map Prod.fst).sum ≤ N) : BT Rn0 (fun _ _ => False) sk L τ k N (f_H_peek F c 0 x (cH sk L τ)) none (fun h => f_M_peek F 1726 x (mh 1726 h σ)) := BT_SI hC hm hN (sf_Hpeek (CV_S4 hC).1.1.1 hF (SI_self hC)) (fun h hl => u_peek hl hF hR)
theorem B_flags {x : Int64} (hF : 65540 < F) (hC : CV sk L own τ fs gs ws n b a Y) (hR : RV σ fs gs ws n b a Y) (hm : RMk sk L (k + 210)) (hN : n + (fs.map Prod.fst).sum ≤ N) : BT Rn0 (fun _ _ => False) sk L τ k N (f_H_flags F c 0 x (cH sk L τ)) none (fun h => f_M_flags F 1726 x (mh 1726 h σ)) := BT_SI hC hm hN (sf_Hflags (CV_S4 hC).1.1.1 hF (SI_self hC)) (fun h hl => u_flags hl hF hR)
theorem B_pack (hK : KT c) (hF : 65540 < F) (hC : CV sk L own τ fs gs ws n b a Y) (hR : RV σ fs gs ws n b a Y) (hm : RMk sk L (k + 210)) (hN : n + (fs.map Prod.fst).sum ≤ N) : BT Rn0 (fun _ _ => False) sk L τ k N (f_H_pack F c 0 (cH sk L τ)) none (fun h => f_M_pack F 1726 (mh 1726 h σ)) := BT_SI hC hm hN (sf_Hpack (CV_S4 hC).1.1 hK hF (SI_self hC)) (fun h hl => u_pack hl hF hR)
theorem B_boot {x : Int32} (hK : KT c) (hF : 65540 < F) (hC : CV sk L own τ fs gs ws n b a Y) (hR : RV σ fs gs ws n b a Y) (hm : RMk sk L (k + 210)) (hN : n + (fs.map Prod.fst).sum ≤ N) : BT Rn0 (fun _ _ => False) sk L τ k N (f_H_boot F c 0 x (cH sk L τ)) none (fun h => f_M_boot F 1726 x (mh 1726 h σ)) := by
  have u : ∀ h : px_H, 1726 ≤ h.length → UM 1726 h fs gs ws (if x = 0 then n else 0) (if x = 0 then b else fun _ => 0) a Y (f_M_boot F 1726 x (mh 1726 h σ)) := fun h hl => u_boot hl hF hR
  obtain ⟨v, τ', e, _, hI⟩ := sf_Hboot (F := F) (c := c) (a1 := x) (CV_S4 hC) hK hF (SI_self hC)
  refine ⟨fs, gs, ws, if x = 0 then n else 0, if x = 0 then b else fun _ => 0, a, Y, by split <;> omega, Or.inl ⟨v, sk, L, τ', own, e, EX_refl, ?_, RMk_le hm (by omega), ?_, fun h hl => ?_⟩⟩
  · rcases hI with ⟨_, hI⟩ | ⟨_, τ1, hI, rfl⟩
    · exact K26_Z hI.1
    · refine K26_trans (K26_Z hI.1) (fun y h1 h2 => ⟨fun k => (tI_ne (Or.inl (by omega))).trans (tI_ne (Or.inl (by omega))), fun _ => rfl, fun _ => rfl, rfl, rfl, rfl⟩)
  · rcases hI with ⟨e0, hI⟩ | ⟨e0, τ1, hI, rfl⟩
    · rw [if_pos e0, if_pos e0]; exact CV_SI hC hI
    · rw [if_neg e0, if_neg e0]; exact CV_clr (CV_SI hC hI)
  · obtain ⟨w, σ', e1, e2⟩ := u h hl
    exact ⟨w, σ', e1, e2, trivial⟩
theorem B_forget (hC : CV sk L own τ fs gs ws n b a Y) (hR : RV σ fs gs ws n b a Y) (hm : RMk sk L (k + 210)) (hN : n + (fs.map Prod.fst).sum ≤ N) : BT Rn0 (fun _ _ => False) sk L τ k N (f_H_forget F c 0 (cH sk L τ)) none (fun h => f_M_forget F 1726 (mh 1726 h σ)) := by
  obtain ⟨τ', e, h1, h2⟩ := v_forget (F := F) (c := c) hC
  refine ⟨fs, [], [], n, b, a, Y, hN, Or.inl ⟨(), sk, L, τ', own, e, EX_refl, h2, RMk_le hm (by omega), h1, fun h hl => ?_⟩⟩
  obtain ⟨w, σ', e1, e2⟩ := u_forget (F := F) hl hR
  exact ⟨w, σ', e1, e2, trivial⟩
theorem B_address (hF : 65540 < F) (hC : CV sk L own τ fs gs ws n b a Y) (hR : RV σ fs gs ws n b a Y) (hm : RMk sk L (k + 210)) (hN : n + (fs.map Prod.fst).sum ≤ N) : BT Rn0 (fun ci _ => ci = 14) sk L τ k N (f_H_address F c 0 (cH sk L τ)) (g_H_address F c 0 (cH sk L τ)) (fun h => f_M_address F 1726 (mh 1726 h σ)) := by
  have u : ∀ h : px_H, 1726 ≤ h.length → UM 1726 h fs gs ws (if a = 0 then 0 else n) (if a = 0 then fun _ => 0 else b) a Y (f_M_address F 1726 (mh 1726 h σ)) := fun h hl => u_address hl hF hR
  have ea : fI τ 147 18 = a := hC.2.2.2.2.2.2.2.2.2.2
  by_cases c0 : a = 0
  · obtain ⟨v, τ', e, h1, h2⟩ := v_address (F := F) (c := c) hF hC c0
    refine ⟨fs, gs, ws, 0, fun _ => 0, a, Y, by omega, Or.inl ⟨v, sk, L, τ', own, e, EX_refl, h2, RMk_le hm (by omega), h1, fun h hl => ?_⟩⟩
    obtain ⟨w, σ', e1, e2⟩ := u h hl
    rw [if_pos c0, if_pos c0] at e2
    exact ⟨w, σ', e1, e2, trivial⟩
  · refine BT_T hC hm hN (ci := 14) ?_ (fun _ => rfl) (fun h hl => ?_)
    · unfold g_H_address
      rw [C0r11 (G0 hC.1) (GR_r (v := 147) hC.2.1 (by decide)), bs, C3g18 (G147 hC.1), bs, if_neg (by rw [ea]; exact c0)]
    · have w := u h hl
      rw [if_neg c0, if_neg c0] at w
      exact w
end BTH
end
section
/-! a call of the class and the same call of the reference: what they answer (steps spelled out by sf/pp.py) -/
abbrev RnI (v w : Int32) (σ : px_S) : Prop := v = w ∧ gI σ 0 = nI 0
section BTI
variable {F : Nat} {c : px_CT} {sk sk' : Nat → Nat × Nat × Nat} {L L' : Nat} {own : Nat → Nat × Nat} {τ τ' : px_TT} {σ : px_S} {fs : List (Nat × (Nat → Nat))} {gs : List (List Nat × Int64)} {ws : List (List Nat)} {n : Nat} {b : Nat → Nat} {a : Int32} {Y : px_Y} {k N : Nat}
theorem B_feed {y : Int32} {z : Int64} (hF : 65540 < F) (hC : CV sk L own τ fs gs ws n b a Y) (hR : RV σ fs gs ws n b a Y) (hm : RMk sk L (k + 210)) (hN : n + (fs.map Prod.fst).sum + 8 ≤ N) : BT RnI (fun ci σ => (ci = 13 ∧ gI σ 0 = nI 1) ∨ (ci = 14 ∧ gI σ 0 = nI 2)) sk L τ k N (f_H_feed F c 0 y z (cH sk L τ)) (g_H_feed F c 0 y z (cH sk L τ)) (fun h => f_M_feed F 1726 y z (mh 1726 h σ)) := by
  have bad : (y < nI 1 ∨ ¬ y ≤ nI 8) → g_H_feed F c 0 y z (cH sk L τ) = some (13, cH sk L τ) → BT RnI (fun ci σ => (ci = 13 ∧ gI σ 0 = nI 1) ∨ (ci = 14 ∧ gI σ 0 = nI 2)) sk L τ k N (f_H_feed F c 0 y z (cH sk L τ)) (g_H_feed F c 0 y z (cH sk L τ)) (fun h => f_M_feed F 1726 y z (mh 1726 h σ)) := fun hy hg =>
    ⟨fs, gs, ws, n, b, a, Y, by omega, Or.inr ⟨13, τ, own, hg, K26_refl τ, RMk_le hm (by omega), hC, fun h hl => ⟨_, _, q_feed_w hl hy, RV_0 hR (FR_I _ _ _), Or.inl ⟨rfl, rfl⟩⟩⟩⟩
  by_cases c1 : y < nI 1
  · exact bad (Or.inl c1) (by unfold g_H_feed g_H_feed_11; rw [if_pos c1])
  · by_cases c2 : y ≤ nI 8
    · obtain ⟨w, w1, w8, rfl⟩ := nI_18 c1 c2
      obtain ⟨v, hv, rfl⟩ := wb_of z
      by_cases c3 : n + w ≤ 8192
      · obtain ⟨τ', e, h1, h2⟩ := v_feed (F := F) (c := c) hF hC hv w1 w8 c3
        refine ⟨fs, gs, ws, n + w, fdd b n v w, a, Y, by omega, Or.inl ⟨_, sk, L, τ', own, e, EX_refl, h2, RMk_le hm (by omega), h1, fun h hl => ?_⟩⟩
        obtain ⟨σ', e1, e2, e3⟩ := u_feed (F := F) hl hF hR hv w1 w8 c3
        exact ⟨_, σ', e1, e3, rfl, e2⟩
      · have ht := hC.2.2.2.2.2.2.1
        refine ⟨fs, gs, ws, n, b, a, Y, by omega, Or.inr ⟨14, τ, own, ?_, K26_refl τ, RMk_le hm (by omega), hC, fun h hl => ⟨_, _, q_feed_n hl w1 w8 c3 hR.1, RV_0 hR (FR_I _ _ _), Or.inr ⟨rfl, rfl⟩⟩⟩⟩
        have hn := ht.2.1
        unfold g_H_feed
        rw [if_neg c1, if_pos c2, C0r0 (G0 hC.1) (R0_0 hC.2.1), bs, C10g1 (G1 hC.1), bs, ht.1, nI_add, if_neg (nI_ge (a := 8192) (by omega) (by omega))]
    · exact bad (Or.inr c2) (by unfold g_H_feed g_H_feed_11; rw [if_neg c1, if_neg c2])
theorem sum_app (fs : List (Nat × (Nat → Nat))) (x : Nat × (Nat → Nat)) : ((fs ++ [x]).map Prod.fst).sum = (fs.map Prod.fst).sum + x.1 := by
  rw [List.map_append, List.sum_append]
  show _ + (x.1 + 0) = _
  rw [Nat.add_zero]
theorem B_add (hK : KT c) (hF : 65540 < F) (hC : CV sk L own τ fs gs ws n b a Y) (hR : RV σ fs gs ws n b a Y) (hm : RMk sk L (k + 210)) (hN : n + (fs.map Prod.fst).sum ≤ N) : BT RnI (fun ci σ => ci = 14 ∧ gI σ 0 = nI 1) sk L τ k N (f_H_add F c 0 (cH sk L τ)) (g_H_add F c 0 (cH sk L τ)) (fun h => f_M_add F 1726 (mh 1726 h σ)) := by
  have h8 := hR.2.1.2.1
  have e6 := hC.2.2.2.1.1
  by_cases c8 : fs.length = 8
  · refine ⟨fs, gs, ws, n, b, a, Y, hN, Or.inr ⟨14, τ, own, ?_, K26_refl τ, RMk_le hm (by omega), hC, fun h hl => ?_⟩⟩
    · unfold g_H_add
      rw [C0g6 (G0 hC.1), bs, e6, c8, if_neg (by decide)]
    · obtain ⟨σ', e1, e2, e3⟩ := u_add (F := F) hl hF hR (fun q h1 h2 => (hC.2.2.2.2.2.2.2.2.1.1.1 q h2).2.2.2 h1)
      rw [if_pos c8] at e2
      rw [if_pos c8, if_pos c8, if_pos c8] at e3
      exact ⟨_, σ', e1, e3, rfl, e2⟩
  · obtain ⟨τ', e, h1, h2⟩ := v_add (F := F) (c := c) hK hF hC (by omega)
    refine ⟨if eFil b n = 0 then fs ++ [(n, b)] else fs, gs, ws, 0, fun _ => 0, a, Y, ?_, Or.inl ⟨_, sk, L, τ', own, e, EX_refl, h2, RMk_le hm (by omega), h1, fun h hl => ?_⟩⟩
    · split
      · rw [sum_app]; omega
      · omega
    · obtain ⟨σ', e1, e2, e3⟩ := u_add (F := F) hl hF hR (fun q h1 h2 => (hC.2.2.2.2.2.2.2.2.1.1.1 q h2).2.2.2 h1)
      rw [if_neg c8] at e1 e2
      rw [if_neg c8, if_neg c8, if_neg c8] at e3
      exact ⟨_, σ', e1, e3, rfl, e2⟩
theorem B_drop (hF : 65540 < F) (hC : CV sk L own τ fs gs ws n b a Y) (hR : RV σ fs gs ws n b a Y) (hm : RMk sk L (k + 210)) (hN : n + (fs.map Prod.fst).sum ≤ N) : BT RnI (fun ci σ => ci = 14 ∧ gI σ 0 = nI 1) sk L τ k N (f_H_drop F c 0 (cH sk L τ)) (g_H_drop F c 0 (cH sk L τ)) (fun h => f_M_drop F 1726 (mh 1726 h σ)) := by
  rcases List.eq_nil_or_concat fs with e0 | ⟨fi, x, e0⟩
  · subst e0
    have e6 : fI τ 0 6 = nI 0 := hC.2.2.2.1.1
    refine ⟨[], gs, ws, n, b, a, Y, hN, Or.inr ⟨14, τ, own, ?_, K26_refl τ, RMk_le hm (by omega), hC, fun h hl => ⟨_, _, q_drop_n hl hR.2.1, RV_0 hR (FR_I _ _ _), rfl, rfl⟩⟩⟩
    unfold g_H_drop
    rw [C0g6 (G0 hC.1), bs, e6, if_neg (show ¬ (0 : Int32) < nI 0 by decide)]
  · rw [List.concat_eq_append] at e0
    subst e0
    rw [sum_app] at hN
    obtain ⟨τ', e, h1, h2⟩ := v_drop (F := F) (c := c) hF hC
    refine ⟨fi, gs, ws, n, b, a, dropY fi.length Y, by omega, Or.inl ⟨_, sk, L, τ', own, e, EX_refl, h2, RMk_le hm (by omega), h1, fun h hl => ?_⟩⟩
    obtain ⟨σ', e1, e2, e3⟩ := u_drop (F := F) hl hR
    exact ⟨_, σ', e1, e3, rfl, e2⟩
theorem gcd_1 {vs : List (List Nat)} (h : tnm b n = false) : gcd' b n vs = 1 := by
  unfold gcd'
  rw [if_neg (by rw [h]; decide)]
theorem gcd_2 {vs : List (List Nat)} (h : tnm b n = true) (h0 : ¬ gcd' b n vs = 0) : gcd' b n vs = 2 ∧ (vs.length = 16 ∨ (idx (tk b 0 n) 0 vs).isSome = true) := by
  unfold gcd' at *
  rw [if_pos h] at h0 ⊢
  by_cases cc : vs.length = 16 ∨ (idx (tk b 0 n) 0 vs).isSome = true
  · rw [if_pos cc]; exact ⟨rfl, cc⟩
  · rw [if_neg cc] at h0; exact absurd rfl h0
theorem B_give {v : Int64} (hF : 65540 < F) (hC : CV sk L own τ fs gs ws n b a Y) (hR : RV σ fs gs ws n b a Y) (hm : RMk sk L (k + 210)) (hN : n + (fs.map Prod.fst).sum ≤ N) : BT RnI (fun ci σ => (ci = 13 ∧ gI σ 0 = nI 1) ∨ (ci = 14 ∧ gI σ 0 = nI 2)) sk L τ k N (f_H_give F c 0 v (cH sk L τ)) (g_H_give F c 0 v (cH sk L τ)) (fun h => f_M_give F 1726 v (mh 1726 h σ)) := by
  have u := fun (h : px_H) (hl : 1726 ≤ h.length) => u_give (F := F) (v := v) hl hF hR
  by_cases c0 : gcd' b n (gs.map Prod.fst) = 0
  · obtain ⟨sk', L', τ', own', e, h1, h2, h3, h4⟩ := v_give (F := F) (c := c) (v := v) (k := k) hF hC (RMk_le hm (by omega)) c0
    refine ⟨fs, gs ++ [(tk b 0 n, v)], ws, 0, fun _ => 0, a, Y, by omega, Or.inl ⟨_, sk', L', τ', own', e, h1, h4, h2, h3, fun h hl => ?_⟩⟩
    obtain ⟨σ', e1, e2, e3⟩ := u h hl
    rw [if_pos c0] at e1 e3
    rw [c0] at e2
    exact ⟨_, σ', e1, e3, rfl, e2⟩
  · obtain ⟨τ1, e1, h1, h2, h3⟩ := v_readTapeName (F := F) (c := c) hF hC
    have u' : ∀ h : px_H, 1726 ≤ h.length → ∃ w σ', f_M_give F 1726 v (mh 1726 h σ) = some (w, mh 1726 h σ') ∧ gI σ' 0 = nI (gcd' b n (gs.map Prod.fst)) ∧ RV σ' fs gs ws 0 (fun _ => 0) a Y := fun h hl => by
      obtain ⟨σ', a1, a2, a3⟩ := u h hl
      rw [if_neg c0] at a3
      exact ⟨_, σ', a1, a2, a3⟩
    cases ht : tnm b n with
    | false =>
      rw [gcd_1 ht] at u'
      refine ⟨fs, gs, ws, 0, fun _ => 0, a, Y, by omega, Or.inr ⟨13, τ1, own, ?_, h3, RMk_le hm (by omega), h1, fun h hl => ?_⟩⟩
      · unfold g_H_give
        rw [c_o (G0 hC.1), bs, e1, xb_mk, ht, if_pos (show bI false = 0 from rfl)]
      · obtain ⟨w, σ', a1, a2, a3⟩ := u' h hl
        exact ⟨w, σ', a1, a3, Or.inl ⟨rfl, a2⟩⟩
    | true =>
      obtain ⟨g2, g3⟩ := gcd_2 ht c0
      rw [g2] at u'
      refine ⟨fs, gs, ws, 0, fun _ => 0, a, Y, by omega, Or.inr ⟨14, τ1, own, ?_, h3, RMk_le hm (by omega), h1, fun h hl => ?_⟩⟩
      · have hg1 := h1.2.2.2.2.1
        have hl16 : (gs.map Prod.fst).length ≤ 16 := hg1.1.2.2.2.1
        unfold g_H_give g_H_give_45
        rw [c_o (G0 hC.1), bs, e1, xb_mk, ht, if_neg (show ¬ bI true = 0 by decide), C0r8 (G0 hC.1) (R0_8 h1.2.1), bs, C0r10 (G0 hC.1) (R0_10 h1.2.1), bs, c_o (G140 hC.1), bs, k_find hg1.1 (G146 hC.1) (h2 ht) (tk_ok hC.2.2.2.2.2.2.1 ht) (by omega), xb_mk]
        cases hi : idx (tk b 0 n) 0 (gs.map Prod.fst) with
        | some i => rfl
        | none =>
          have hl : (gs.map Prod.fst).length = 16 := g3.resolve_right (by rw [hi]; decide)
          show ((xgR (cH sk L τ1) 0 8 0).bind _) = _
          rw [C0r8 (G0 hC.1) (R0_8 h1.2.1), bs, C6g2 (G140 hC.1), bs, hg1.1.2.2.2.2.2.1, hl, if_neg (by decide)]
      · obtain ⟨w, σ', a1, a2, a3⟩ := u' h hl
        exact ⟨w, σ', a1, a3, Or.inr ⟨rfl, a2⟩⟩
theorem B_wish (hF : 65540 < F) (hC : CV sk L own τ fs gs ws n b a Y) (hR : RV σ fs gs ws n b a Y) (hm : RMk sk L (k + 210)) (hN : n + (fs.map Prod.fst).sum ≤ N) : BT RnI (fun ci σ => (ci = 13 ∧ gI σ 0 = nI 1) ∨ (ci = 14 ∧ gI σ 0 = nI 2)) sk L τ k N (f_H_wish F c 0 (cH sk L τ)) (g_H_wish F c 0 (cH sk L τ)) (fun h => f_M_wish F 1726 (mh 1726 h σ)) := by
  have u := fun (h : px_H) (hl : 1726 ≤ h.length) => u_wish (F := F) hl hF hR
  by_cases c0 : gcd' b n ws = 0
  · obtain ⟨sk', L', τ', own', e, h1, h2, h3, h4⟩ := v_wish (F := F) (c := c) (k := k) hF hC (RMk_le hm (by omega)) c0
    refine ⟨fs, gs, ws ++ [tk b 0 n], 0, fun _ => 0, a, Y, by omega, Or.inl ⟨_, sk', L', τ', own', e, h1, h4, h2, h3, fun h hl => ?_⟩⟩
    obtain ⟨σ', e1, e2, e3⟩ := u h hl
    rw [if_pos c0] at e1 e3
    rw [c0] at e2
    exact ⟨_, σ', e1, e3, rfl, e2⟩
  · obtain ⟨τ1, e1, h1, h2, h3⟩ := v_readTapeName (F := F) (c := c) hF hC
    have u' : ∀ h : px_H, 1726 ≤ h.length → ∃ w σ', f_M_wish F 1726 (mh 1726 h σ) = some (w, mh 1726 h σ') ∧ gI σ' 0 = nI (gcd' b n ws) ∧ RV σ' fs gs ws 0 (fun _ => 0) a Y := fun h hl => by
      obtain ⟨σ', a1, a2, a3⟩ := u h hl
      rw [if_neg c0] at a3
      exact ⟨_, σ', a1, a2, a3⟩
    cases ht : tnm b n with
    | false =>
      rw [gcd_1 ht] at u'
      refine ⟨fs, gs, ws, 0, fun _ => 0, a, Y, by omega, Or.inr ⟨13, τ1, own, ?_, h3, RMk_le hm (by omega), h1, fun h hl => ?_⟩⟩
      · unfold g_H_wish
        rw [c_o (G0 hC.1), bs, e1, xb_mk, ht, if_pos (show bI false = 0 from rfl)]
      · obtain ⟨w, σ', a1, a2, a3⟩ := u' h hl
        exact ⟨w, σ', a1, a3, Or.inl ⟨rfl, a2⟩⟩
    | true =>
      obtain ⟨g2, g3⟩ := gcd_2 ht c0
      rw [g2] at u'
      refine ⟨fs, gs, ws, 0, fun _ => 0, a, Y, by omega, Or.inr ⟨14, τ1, own, ?_, h3, RMk_le hm (by omega), h1, fun h hl => ?_⟩⟩
      · have hg1 := h1.2.2.2.2.2.1
        have hl16 : ws.length ≤ 16 := hg1.2.2.2.1
        unfold g_H_wish g_H_wish_45
        rw [c_o (G0 hC.1), bs, e1, xb_mk, ht, if_neg (show ¬ bI true = 0 by decide), C0r9 (G0 hC.1) (R0_9 h1.2.1), bs, C0r10 (G0 hC.1) (R0_10 h1.2.1), bs, c_o (G143 hC.1), bs, k_find hg1 (G146 hC.1) (h2 ht) (tk_ok hC.2.2.2.2.2.2.1 ht) (by omega), xb_mk]
        cases hi : idx (tk b 0 n) 0 ws with
        | some i => rfl
        | none =>
          have hl : ws.length = 16 := g3.resolve_right (by rw [hi]; decide)
          show ((xgR (cH sk L τ1) 0 9 0).bind _) = _
          rw [C0r9 (G0 hC.1) (R0_9 h1.2.1), bs, C6g2 (G143 hC.1), bs, hg1.2.2.2.2.2.1, hl, if_neg (by decide)]
      · obtain ⟨w, σ', a1, a2, a3⟩ := u' h hl
        exact ⟨w, σ', a1, a3, Or.inr ⟨rfl, a2⟩⟩
/-- the bytes of the files, as the link reads them -/
theorem BFs_RF (hr : RF σ fs) : BFs fs (fun x => b8 (gA σ 6 x)) := fun q o n b hq => by
  obtain ⟨_, _, _, _, q5, q6, _⟩ := RF_ob hr hq
  refine ⟨q6, fun x hx => ?_⟩
  rw [← q5]
  unfold cb
  rw [if_pos hx]
theorem B_link {rc : Bool} (hK : KT c) (hF : 65540 < F) (hC : CV sk L own τ fs gs ws n b a Y) (hR : RV σ fs gs ws n b a Y) (hm : RMk sk L (k + 210)) (hN : n + (fs.map Prod.fst).sum ≤ N) (hs : (fs.map Prod.fst).sum ≤ 4096) : BT (fun (v w : Int32) _ => v = w) (fun _ _ => False) sk L τ k N (f_H_link F c 0 (bI rc) (cH sk L τ)) none (fun h => f_M_link F 1726 (bI rc) (mh 1726 h σ)) := by
  have hr := hR.2.1
  have hB : RB σ (fun x => b8 (gA σ 6 x)) := ⟨hr.2.2.1, fun _ => rfl⟩
  have hBF := BFs_RF hr
  have hrm := rmT_b (RF_FSo hr) hs
  have hm' : RMk sk L (k + rmT fs [] + 32) := RMk_le hm (by omega)
  have hL : 1815 ≤ L := hC.1.1
  obtain ⟨σ1, j, s, ll1, ad1, NA1, e1, hj, hl1, _⟩ := u_link (rc := rc) (F := F) (m := 1726) (h := cH sk L τ) (by rw [cH_len]; omega) hF hR hB hs
  obtain ⟨sk', L', τ', own', ll, ad, NA, e, h1, h2, h3, h4, lx⟩ := v_link (F := F) (c := c) (k := k) hF hK hC hm' hs hBF hl1
  refine ⟨fs, gs, ws, n, b, nI j, lnY fs s ll ad NA, hN, Or.inl ⟨_, sk', L', τ', own', e, h1, h4, h2, h3, fun h hl => ?_⟩⟩
  obtain ⟨σ2, j2, s2, ll2, ad2, NA2, e2, hj2, hl2, hv2, lx2⟩ := u_link (rc := rc) (F := F) (m := 1726) (h := h) hl hF hR hB hs
  obtain ⟨sk2, L2, τ2, own2, _, _, _, e3, _⟩ := v_link (F := F) (c := c) (k := k) hF hK hC hm' hs hBF hl2
  have ej : nI j = nI j2 := by
    rw [e] at e3
    exact (Prod.mk.inj (Option.some.inj e3)).1
  have ejn : j = j2 := (nI_eq (by omega) (by omega)).mp ej
  have es : s2 = s := hl2.1.trans hl1.1.symm
  subst ejn
  subst es
  exact ⟨_, σ2, e2, RV_Y hv2 hj (fun c0 => lnX_u (lx2 c0) (lx c0)), rfl⟩
theorem B_merge (hK : KT c) (hF : 65540 < F) (hC : CV sk L own τ fs gs ws n b a Y) (hR : RV σ fs gs ws n b a Y) (hm : RMk sk L (k + 210)) (hN : n + (fs.map Prod.fst).sum ≤ N) (hs : (fs.map Prod.fst).sum ≤ 4096) : BT Rn0 (fun _ _ => False) sk L τ k N (f_H_merge F c 0 (cH sk L τ)) none (fun h => f_M_merge F 1726 (mh 1726 h σ)) := by
  have hr := hR.2.1
  have hB : RB σ (fun x => b8 (gA σ 6 x)) := ⟨hr.2.2.1, fun _ => rfl⟩
  have hBF := BFs_RF hr
  have hrm := rmT_b (RF_FSo hr) hs
  have hm' : RMk sk L (k + rmT fs [] + 32) := RMk_le hm (by omega)
  have hL : 1815 ≤ L := hC.1.1
  obtain ⟨v1, σ1, j, s, ll1, ad1, NA1, e1, hj, hl1, _⟩ := u_merge (F := F) (m := 1726) (h := cH sk L τ) (by rw [cH_len]; omega) hF hR hB hs
  obtain ⟨v, sk', L', τ', own', ll, ad, NA, e, h1, h2, h3, h4, lx⟩ := v_merge (F := F) (c := c) (k := k) hF hK hC hm' hs hBF hl1
  obtain ⟨_, _, _, _, _, _, _, e0, _⟩ := v_link (F := F) (c := c) (k := k) hF hK hC hm' hs hBF hl1
  refine ⟨fs, gs, ws, n, b, nI j, lnY fs s ll ad NA, hN, Or.inl ⟨_, sk', L', τ', own', e, h1, h4, h2, h3, fun h hl => ?_⟩⟩
  obtain ⟨v2, σ2, j2, s2, ll2, ad2, NA2, e2, hj2, hl2, hv2, lx2⟩ := u_merge (F := F) (m := 1726) (h := h) hl hF hR hB hs
  obtain ⟨_, _, _, _, _, _, _, e3, _⟩ := v_link (F := F) (c := c) (k := k) hF hK hC hm' hs hBF hl2
  have ej : nI j = nI j2 := by
    rw [e0] at e3
    exact (Prod.mk.inj (Option.some.inj e3)).1
  have ejn : j = j2 := (nI_eq (by omega) (by omega)).mp ej
  have es : s2 = s := hl2.1.trans hl1.1.symm
  subst ejn
  subst es
  exact ⟨_, σ2, e2, RV_Y hv2 hj (fun c0 => lnX_u (lx2 c0) (lx c0)), trivial⟩
end BTI
end
section
/-! sum: class and reference answer alike (steps spelled out by sf/pp.py) -/
/-- the lengths of the kept sections of group g, c of them from the j-th on, added to v -/
def smS (b : Nat → Nat) (g : Int32) (j : Nat) (v : Int64) : Int64 := if oK b j = true ∧ nI (oG b j) = g then v + lN (oZ b j) else v
def smL (b : Nat → Nat) (g : Int32) (d j : Nat) (v : Int64) : Int64 := itr (smS b g) j d v
theorem smL_s {b : Nat → Nat} {g : Int32} {d j : Nat} {v : Int64} : smL b g (d + 1) j v = smL b g d (j + 1) (smS b g j v) := itr_s
theorem smS_t {b : Nat → Nat} {g : Int32} {j : Nat} {v : Int64} (h : oK b j = true ∧ nI (oG b j) = g) : smS b g j v = v + lN (oZ b j) := if_pos h
theorem smS_f {b : Nat → Nat} {g : Int32} {j : Nat} {v : Int64} (h : ¬ (oK b j = true ∧ nI (oG b j) = g)) : smS b g j v = v := if_neg h
/-- the member (i, k) that is asked for -/
def MBR (fs : px_FS) (i k : Int32) (q o n : Nat) (b : Nat → Nat) (z : Bool) : Prop := ∃ i' k', i' < fs.length ∧ k' < 8 ∧ i = nI i' ∧ k = nI k' ∧ q = 8 * i' + k' ∧ obAt fs q = some (o, n, b, z)
theorem nI_n0 {k : Nat} (h : k < 2 ^ 31) : ¬ nI k < 0 := nI_nlt (Nat.zero_le k) h
theorem obAt_z {fs : px_FS} {q o n : Nat} {b : Nat → Nat} {x : Nat × (Nat → Nat)} (hq : obAt fs q = some (o, n, b, true)) (hx : fs[q / 8]? = some x) : isAr x.2 x.1 = true := by
  cases ha : isAr x.2 x.1 with
  | true => rfl
  | false =>
    exfalso
    unfold obAt at hq
    rw [hx] at hq
    dsimp only at hq
    unfold fMem at hq
    rw [if_neg (by rw [ha]; decide)] at hq
    dsimp only at hq
    cases hk : q % 8 with
    | zero =>
      rw [hk] at hq
      have e := (Prod.mk.inj (Prod.mk.inj (Prod.mk.inj (Option.some.inj hq)).2).2).2
      cases e
    | succ k =>
      rw [hk] at hq
      cases hq
theorem mkd_3 {fs : px_FS} {q o n : Nat} {b : Nat → Nat} {x : Nat × (Nat → Nat)} {z : Bool} (hq : obAt fs q = some (o, n, b, z)) (hx : fs[q / 8]? = some x) : (nI (mkd (isAr x.2 x.1) z) = nI 3 ↔ z = true) ∧ ¬ nI (mkd (isAr x.2 x.1) z) = 0 := by
  cases z with
  | true =>
    rw [obAt_z hq hx]
    exact ⟨⟨fun _ => rfl, fun _ => rfl⟩, by decide⟩
  | false =>
    cases isAr x.2 x.1 with
    | true => exact ⟨⟨fun e => absurd e (by decide), fun e => by cases e⟩, by decide⟩
    | false => exact ⟨⟨fun e => absurd e (by decide), fun e => by cases e⟩, by decide⟩
theorem MBR_u {fs : px_FS} (h8 : fs.length ≤ 8) {i k : Int32} {q o n q' o' n' : Nat} {b b' : Nat → Nat} {z z' : Bool} (h : MBR fs i k q o n b z) (h' : MBR fs i k q' o' n' b' z') : q = q' ∧ o = o' ∧ n = n' ∧ b = b' ∧ z = z' := by
  obtain ⟨i1, k1, a1, a2, a3, a4, a5, a6⟩ := h
  obtain ⟨i2, k2, b1, b2, b3, b4, b5, b6⟩ := h'
  have ei : i1 = i2 := (nI_eq (by omega) (by omega)).mp (a3.symm.trans b3)
  have ek : k1 = k2 := (nI_eq (by omega) (by omega)).mp (a4.symm.trans b4)
  have eq : q = q' := by omega
  subst eq
  rw [a6] at b6
  have e1 := Prod.mk.inj (Option.some.inj b6)
  have e2 := Prod.mk.inj e1.2
  have e3 := Prod.mk.inj e2.2
  exact ⟨rfl, e1.1, e2.1, e3.1, e3.2⟩
section BSM
variable {F : Nat} {c : px_CT} {sk : Nat → Nat × Nat × Nat} {L : Nat} {own : Nat → Nat × Nat} {τ : px_TT} {fs : List (Nat × (Nat → Nat))} {gs : List (List Nat × Int64)} {ws : List (List Nat)} {n : Nat} {b : Nat → Nat} {a : Int32} {Y : px_Y} {i k : Int32}
/-- the class's member (i, k) -/
theorem k_memAt (hC : CV sk L own τ fs gs ws n b a Y) : (∃ q o n' b' z, MBR fs i k q o n' b' z ∧ f_H_memberAt F c 0 i k (cH sk L τ) = some (some (10 + 2 * q), cH sk L τ)) ∨ ((∀ q o n' b' z, ¬ MBR fs i k q o n' b' z) ∧ f_H_memberAt F c 0 i k (cH sk L τ) = some (none, cH sk L τ)) := by
  have o0 := G0 hC.1
  have hf := hC.2.2.2.1
  have h8 := hf.2.1
  have e6 : fI τ 0 6 = nI fs.length := hf.1
  unfold f_H_memberAt f_H_memberAt_22 f_H_memberAt_48
  by_cases c1 : i < 0
  · rw [if_pos c1]
    refine Or.inr ⟨fun q o n' b' z ⟨i', k', q1, q2, q3, _⟩ => ?_, rfl⟩
    rw [q3] at c1
    exact nI_n0 (by omega) c1
  · rw [if_neg c1, C0g6 o0, bs, e6]
    obtain ⟨i', hi', rfl⟩ := nI_of c1
    by_cases c2 : nI fs.length ≤ nI i'
    · rw [if_pos c2]
      refine Or.inr ⟨fun q o n' b' z ⟨i2, k2, q1, q2, q3, _⟩ => ?_, rfl⟩
      have e2 : i' = i2 := (nI_eq (by omega) (by omega)).mp q3
      exact nI_ge (by omega) (by omega) c2
    · rw [if_neg c2]
      have hi8 : i' < fs.length := Nat.lt_of_not_le (fun h => c2 (nI_le h hi'))
      by_cases c3 : k < 0
      · rw [if_pos c3]
        refine Or.inr ⟨fun q o n' b' z ⟨i2, k2, q1, q2, q3, q4, _⟩ => ?_, rfl⟩
        rw [q4] at c3
        exact nI_n0 (by omega) c3
      · rw [if_neg c3]
        obtain ⟨k', hk', rfl⟩ := nI_of c3
        by_cases c4 : nI k' < nI 8
        · have hk8 : k' < 8 := Nat.lt_of_not_le (fun h => absurd c4 (nI_nlt h hk'))
          have hq : i' * 8 + k' < 64 := by omega
          have ho := G_of hC.1 hq
          rw [if_pos c4, C0r4 o0 (GR_r (v := 9) hC.2.1 (by decide)), bs, show nI i' * nI 8 = nI (i' * 8) from (Int32.ofNat_mul i' 8).symm, nI_add, c_aN (G9 hC.1) (Or.inl rfl) (by decide) hq, bs, (hC.2.1.2.1 _ hq).2.2.1, bs, C7g4 ho, bs]
          have eqq : i' * 8 + k' = 8 * i' + k' := by omega
          rw [eqq]
          rw [eqq] at hq
          cases hob : obAt fs (8 * i' + k') with
          | none =>
            rw [CF_no hf hob hq, if_pos (show (nI 0 : Int32) = 0 from rfl)]
            refine Or.inr ⟨fun q o n' b' z ⟨i2, k2, q1, q2, q3, q4, q5, q6⟩ => ?_, rfl⟩
            have e2 : i' = i2 := (nI_eq (by omega) (by omega)).mp q3
            have e3 : k' = k2 := (nI_eq (by omega) (by omega)).mp q4
            rw [q5, ← e2, ← e3, hob] at q6
            cases q6
          | some y =>
            obtain ⟨o, n', b', z⟩ := y
            obtain ⟨_, ⟨x, hx, e4⟩, _⟩ := CF_ob hf hob
            rw [e4, if_neg (mkd_3 hob hx).2]
            exact Or.inl ⟨_, o, n', b', z, ⟨i', k', hi8, hk8, rfl, rfl, rfl, hob⟩, rfl⟩
        · rw [if_neg c4]
          refine Or.inr ⟨fun q o n' b' z ⟨i2, k2, q1, q2, q3, q4, _⟩ => ?_, rfl⟩
          have e3 : k' = k2 := (nI_eq (by omega) (by omega)).mp q4
          exact c4 (nI_lt (by omega) (by decide))
/-- the class's object (i, k): no member that is skipped -/
theorem k_objAt (hC : CV sk L own τ fs gs ws n b a Y) : (∃ q o n' b', MBR fs i k q o n' b' false ∧ f_H_objectAt F c 0 i k (cH sk L τ) = some (some (10 + 2 * q), cH sk L τ)) ∨ ((∀ q o n' b', ¬ MBR fs i k q o n' b' false) ∧ f_H_objectAt F c 0 i k (cH sk L τ) = some (none, cH sk L τ)) := by
  have hf := hC.2.2.2.1
  unfold f_H_objectAt f_H_objectAt_19 f_H_objectAt_24
  rcases k_memAt (F := F) (c := c) (i := i) (k := k) hC with ⟨q, o, n', b', z, hM, e⟩ | ⟨hM, e⟩
  · have hob : obAt fs q = some (o, n', b', z) := by
      obtain ⟨_, _, _, _, _, _, _, h⟩ := hM
      exact h
    obtain ⟨h64, ⟨x, hx, e4⟩, _⟩ := CF_ob hf hob
    rw [c_o (G0 hC.1), bs, e, xb_mk]
    dsimp only
    rw [C7g4 (G_of hC.1 h64), bs, e4]
    cases z with
    | true =>
      rw [if_pos ((mkd_3 hob hx).1.mpr rfl)]
      refine Or.inr ⟨fun q2 o2 n2 b2 h2 => ?_, rfl⟩
      have e5 := (MBR_u hf.2.1 hM h2).2.2.2.2
      cases e5
    | false =>
      rw [if_neg (fun h => by have h := (mkd_3 hob hx).1.mp h; cases h)]
      exact Or.inl ⟨q, o, n', b', hM, rfl⟩
  · rw [c_o (G0 hC.1), bs, e, xb_mk]
    exact Or.inr ⟨fun q o n' b' => hM q o n' b' false, rfl⟩
theorem gv_eq {b : Nat → Nat} {g : Int32} {j : Nat} (hg : ¬ g < 0) : gv b j = g ↔ (oK b j = true ∧ nI (oG b j) = g) := by
  unfold gv
  by_cases h : oK b j = true
  · rw [if_pos h]
    exact ⟨fun e => ⟨h, e⟩, fun e => e.2⟩
  · rw [if_neg h]
    exact ⟨fun e => absurd (show Int32.ofInt (-1) < 0 by decide) (by rw [e]; exact hg), fun e => absurd e.1 h⟩
/-- the class's loop -/
theorem k_sum_38 {q gg base n : Nat} {S : Nat → Int32} {g : Int32} (hF : 24 < F) (hD : cD sk L τ q gg base n S) (hg : ¬ g < 0) : ∀ (d j f : Nat) (v : Int64), j + d = oS (cb S base n) → d < f → f_H_sum_38 F c f g (some q) v (nI j) (cH sk L τ) = some (smL (cb S base n) g d j v, cH sk L τ) := by
  have hG := hD.1.1
  have hr := hG.1
  have h24 := hr.2.1.2.2
  have o1 := hr.1.1
  have e8 := hr.2.2.2.2
  intro d
  induction d with
  | zero =>
    intro j f v hj hf
    obtain ⟨f, rfl⟩ : ∃ y, f = y + 1 := ⟨f - 1, by omega⟩
    unfold f_H_sum_38 f_H_sum_78
    rw [bs, C7g8 o1, bs, e8, if_pos (nI_le (by omega) (by omega))]
    rfl
  | succ d ih =>
    intro j f v hj hf
    obtain ⟨f, rfl⟩ : ∃ y, f = y + 1 := ⟨f - 1, by omega⟩
    have hjS : j < oS (cb S base n) := by omega
    unfold f_H_sum_38 f_H_sum_78 f_H_sum_72
    rw [bs, C7g8 o1, bs, e8, if_neg (nI_ge (by omega) (by omega)), c_o o1, bs, nI_l (by omega), k_groupOf hG (by omega), xb_mk, if_pos hjS, nI_add]
    rw [smL_s]
    by_cases cc : gv (cb S base n) j = g
    · rw [if_pos cc, smS_t ((gv_eq hg).mp cc), c_o o1, bs, (cD_sec hD (by omega) hjS).1, xb_mk]
      exact ih _ _ _ (by omega) (by omega)
    · rw [if_neg cc, smS_f (fun h => cc ((gv_eq hg).mpr h))]
      exact ih _ _ _ (by omega) (by omega)
/-- the first section is never kept -/
theorem eObj_K0 {b : Nat → Nat} {n : Nat} (h : eObj b n = 0) : oK b 0 = false := by
  unfold eObj at h
  by_cases c1 : n < 64 ∨ oH b = false
  · rw [if_pos c1] at h; cases h
  · rw [if_neg c1] at h
    by_cases c2 : 1 ≤ oS b ∧ oS b ≤ 24 ∧ oR b + 64 * oS b ≤ n ∧ oT b 0 = 0
    · unfold oK
      rw [c2.2.2.2]
      exact decide_eq_false (fun w => by rcases w.1 with w | w <;> cases w)
    · rw [if_pos c2] at h; cases h
end BSM
section BSR
variable {F m : Nat} {h : px_H} {σ : px_S} {fs : px_FS}
/-- the reference's loop -/
theorem q_sum_120 {g : Int32} {o n : Nat} (hm : m ≤ h.length) (hF : 24 < F) (hB : ∀ k, isB (gA σ 6 k)) (hw : w2 (cb (gA σ 6) o n) n) (hon : o + n ≤ 65536) : ∀ (d j f : Nat) (v : Int64), j + d = oS (cb (gA σ 6) o n) → d < f → f_M_sum_120 F f m g (nI o) v (nI j) (mh m h σ) = some (smL (cb (gA σ 6) o n) g d j v, mh m h σ) := by
  have hb := Mmb hm hB
  have hrk := w1_rk hw.1 hon
  have h24 := hrk.2.2
  have e0 : ∀ v : Int64, v + lN 0 = v := fun v => Int64.add_zero v
  intro d
  induction d with
  | zero =>
    intro j f v hj hf
    obtain ⟨f, rfl⟩ : ∃ y, f = y + 1 := ⟨f - 1, by omega⟩
    unfold f_M_sum_120 f_M_sum_177
    rw [e_o hm, bs, q_sections hb (by omega) hrk.1, xb_mk, if_pos (nI_le (by omega) (by omega))]
    rfl
  | succ d ih =>
    intro j f v hj hf
    obtain ⟨f, rfl⟩ : ∃ y, f = y + 1 := ⟨f - 1, by omega⟩
    have hjS : j < oS (cb (gA σ 6) o n) := by omega
    unfold f_M_sum_120 f_M_sum_177 f_M_sum_167 f_M_sum_168
    rw [e_o hm, bs, q_sections hb (by omega) hrk.1, xb_mk, if_neg (nI_ge (by omega) (by omega)), e_o hm, bs, q_isKept hb (by omega) hrk hjS, xb_mk, nI_add, e0]
    rw [smL_s]
    by_cases c1 : oK (cb (gA σ 6) o n) j = true
    · rw [if_neg (by rw [c1]; decide), e_o hm, bs, q_group hb (by omega) hrk hjS, xb_mk]
      by_cases c2 : nI (oG (cb (gA σ 6) o n) j) = g
      · rw [if_pos c2, smS_t ⟨c1, c2⟩, e_o hm, bs, q_size hb (by omega) hrk hjS, xb_mk]
        exact ih _ _ _ (by omega) (by omega)
      · rw [if_neg c2, smS_f (fun w => c2 w.2)]
        exact ih _ _ _ (by omega) (by omega)
    · have c1' := Bool.eq_false_iff.mpr c1
      rw [if_pos (by rw [c1']; rfl), smS_f (fun w => c1 w.1)]
      exact ih _ _ _ (by omega) (by omega)
/-- the reference's sum -/
theorem q_sum {a1 a2 g : Int32} (hm : m ≤ h.length) (hF : 24 < F) (hr : RF σ fs) : (∀ q o n b, MBR fs a1 a2 q o n b false → ¬ g < 0 → g ≤ nI 5 → f_M_sum F m a1 a2 g (mh m h σ) = some (smL b g (oS b - 1) 1 (lN 0), mh m h (sI σ 0 (nI 0)))) ∧ (((∀ q o n b, ¬ MBR fs a1 a2 q o n b false) ∨ g < 0 ∨ ¬ g ≤ nI 5) → f_M_sum F m a1 a2 g (mh m h σ) = some (lN 0, mh m h (sI σ 0 (nI 1)))) := by
  have h8 := hr.2.1
  have th1 : f_M_throwing F m (nI 1) (nI 0) (mh m h σ) = some (nI 1, mh m h (sI σ 0 (nI 1))) := q_throwing hm true false
  have th0 : f_M_throwing F m (nI 0) (nI 0) (mh m h σ) = some (nI 0, mh m h (sI σ 0 (nI 0))) := q_throwing hm false false
  have bad2 : f_M_sum_92 F m a1 a2 g m (nI 1) (mh m h σ) = some (lN 0, mh m h (sI σ 0 (nI 1))) := by
    unfold f_M_sum_92
    rw [e_o hm, bs, th1, xb_mk, if_neg (by decide)]
  have bad : f_M_sum_47 F m a1 a2 g (nI 1) (mh m h σ) = some (lN 0, mh m h (sI σ 0 (nI 1))) := by
    unfold f_M_sum_47 f_M_sum_87
    rw [if_neg (by decide)]
    exact bad2
  have no : (∀ q o n b, ¬ MBR fs a1 a2 q o n b false) → f_M_sum F m a1 a2 g (mh m h σ) = some (lN 0, mh m h (sI σ 0 (nI 1))) → (∀ q o n b, MBR fs a1 a2 q o n b false → ¬ g < 0 → g ≤ nI 5 → f_M_sum F m a1 a2 g (mh m h σ) = some (smL b g (oS b - 1) 1 (lN 0), mh m h (sI σ 0 (nI 0)))) ∧ (((∀ q o n b, ¬ MBR fs a1 a2 q o n b false) ∨ g < 0 ∨ ¬ g ≤ nI 5) → f_M_sum F m a1 a2 g (mh m h σ) = some (lN 0, mh m h (sI σ 0 (nI 1)))) := fun hM e => ⟨fun q o n b h => absurd h (hM q o n b), fun _ => e⟩
  by_cases c1 : a1 < 0
  · refine no (fun q o n b ⟨i', k', q1, q2, q3, _⟩ => ?_) ?_
    · rw [q3] at c1
      exact nI_n0 (by omega) c1
    · unfold f_M_sum f_M_sum_42
      rw [if_pos c1, bad]
  by_cases c2 : nI fs.length ≤ a1
  · refine no (fun q o n b ⟨i', k', q1, q2, q3, _⟩ => ?_) ?_
    · rw [q3] at c2
      exact nI_ge (by omega) (by omega) c2
    · unfold f_M_sum f_M_sum_42
      rw [if_neg c1, Mg5 hm, bs, hr.1, if_pos c2, bad]
  obtain ⟨i, hi, rfl⟩ := ixG c1 c2 (Nat.le_refl _)
  by_cases c3 : a2 < 0
  · refine no (fun q o n b ⟨i', k', q1, q2, q3, q4, _⟩ => ?_) ?_
    · rw [q4] at c3
      exact nI_n0 (by omega) c3
    · unfold f_M_sum f_M_sum_42
      rw [if_neg c1, Mg5 hm, bs, hr.1, if_neg c2, if_pos c3, bad]
  obtain ⟨x, hx⟩ : ∃ x, fs[i]? = some x := ⟨_, List.getElem?_eq_getElem hi⟩
  obtain ⟨_, _, _, _, l, hl, _⟩ := hr.2.2.2 i x hx
  obtain ⟨y1, y2, y3, _⟩ := RF_row hr hx hl
  obtain ⟨k, hk, rfl⟩ := nI_of c3
  have a8 : xaI (mh m h σ) 1 (m + 5) (nI i) = some (gA σ 8 i) := e_aI (k := 8) hm rfl (show i < 8 by omega)
  have head : f_M_sum F m (nI i) (nI k) g (mh m h σ) = if nI k < nI l.length then f_M_sum_47 F m (nI i) (nI k) g (nI 0) (mh m h σ) else f_M_sum_47 F m (nI i) (nI k) g (nI 1) (mh m h σ) := by
    unfold f_M_sum f_M_sum_38 f_M_sum_42
    rw [if_neg c1, Mg5 hm, bs, hr.1, if_neg c2, if_neg c3, Mr8 hm, bs, if_neg c1, bs, if_pos (Int32.not_le.mp c2), a8, bs, y1]
  by_cases c4 : nI k < nI l.length
  · rw [if_pos c4] at head
    have hkl : k < l.length := Nat.lt_of_not_le (fun w => absurd c4 (nI_nlt w hk))
    have eob := obAt_none hr hx hl (show k < 8 by omega)
    rw [List.getElem?_eq_getElem hkl] at eob
    obtain ⟨o, n, b, sk, hob⟩ : ∃ o n b sk, obAt fs (8 * i + k) = some (o, n, b, sk) := ⟨_, _, _, _, eob⟩
    have hM : MBR fs (nI i) (nI k) (8 * i + k) o n b sk := ⟨i, k, hi, by omega, rfl, rfl, rfl, hob⟩
    obtain ⟨q1, q2, q3, q4, q5, q6, q7⟩ := RF_ob hr hob
    have a12 : xaI (mh m h σ) 3 (m + 9) (nI (8 * i + k)) = some (gA σ 12 (8 * i + k)) := e_aI (k := 12) hm rfl q1
    have head2 : f_M_sum F m (nI i) (nI k) g (mh m h σ) = if bI sk = 0 then (if g < 0 then f_M_sum_87 F m (nI i) (nI k) g m (mh m h σ) else if g ≤ nI 5 then f_M_sum_92 F m (nI i) (nI k) g m (nI 0) (mh m h σ) else f_M_sum_87 F m (nI i) (nI k) g m (mh m h σ)) else f_M_sum_87 F m (nI i) (nI k) g m (mh m h σ) := by
      rw [head]
      unfold f_M_sum_47 f_M_sum_74
      rw [if_pos (show (nI 0 : Int32) = 0 from rfl), Mr12 hm, bs, if_pos (show (nI 0 : Int32) = 0 from rfl), ix8, a12, bs, q4]
    have e87 : f_M_sum_87 F m (nI i) (nI k) g m (mh m h σ) = some (lN 0, mh m h (sI σ 0 (nI 1))) := bad2
    rw [e87] at head2
    cases sk with
    | true =>
      refine no (fun q o n b h2 => ?_) ?_
      · have e5 := (MBR_u h8 hM h2).2.2.2.2
        cases e5
      · rw [head2, if_neg (by decide)]
    | false =>
      rw [if_pos (show bI false = 0 from rfl)] at head2
      by_cases g1 : g < 0
      · rw [if_pos g1] at head2
        exact ⟨fun _ _ _ _ _ h2 _ => absurd g1 h2, fun _ => head2⟩
      · rw [if_neg g1] at head2
        by_cases g2 : g ≤ nI 5
        · rw [if_pos g2] at head2
          refine ⟨fun q' o' n' b' h2 _ _ => ?_, fun w => ?_⟩
          · obtain ⟨_, _, _, e5, _⟩ := MBR_u h8 hM h2
            subst e5
            have he := q7 rfl
            have hw2 : w2 (cb (gA (sI σ 0 (nI 0)) 6) o n) n := by
              rw [show cb (gA (sI σ 0 (nI 0)) 6) o n = b from q5]
              exact (eObj_0 he).1
            have h1S := hw2.1.2.1.1
            have h24S := hw2.1.2.1.2
            have a9 : xaI (mh m h (sI σ 0 (nI 0))) 1 (m + 6) (nI (8 * i + k)) = some (gA (sI σ 0 (nI 0)) 9 (8 * i + k)) := e_aI (k := 9) hm rfl q1
            rw [head2]
            unfold f_M_sum_92
            rw [e_o hm, bs, th0, xb_mk, if_pos (show (nI 0 : Int32) = 0 from rfl), Mr9 hm, bs, ix8, a9, bs, show gA (sI σ 0 (nI 0)) 9 (8 * i + k) = nI o from q2]
            rw [q_sum_120 (σ := sI σ 0 (nI 0)) hm hF hr.2.2.1 hw2 q6 (oS (cb (gA (sI σ 0 (nI 0)) 6) o n) - 1) 1 F _ (by omega) (by omega), show cb (gA (sI σ 0 (nI 0)) 6) o n = b from q5]
          · rcases w with w | w | w
            · exact absurd hM (w _ _ _ _)
            · exact absurd w g1
            · exact absurd g2 w
        · rw [if_neg g2] at head2
          exact ⟨fun _ _ _ _ _ _ h3 => absurd h3 g2, fun _ => head2⟩
  · rw [if_neg c4, bad] at head
    refine no (fun q o n b ⟨i', k', q1, q2, q3, q4, q5, q6⟩ => ?_) head
    have e2 : i = i' := (nI_eq (by omega) (by omega)).mp q3
    have e3 : k = k' := (nI_eq (by omega) (by omega)).mp q4
    have hkl : ¬ k < l.length := fun w => c4 (nI_lt w (by omega))
    have eob := obAt_none hr hx hl (show k < 8 by omega)
    rw [List.getElem?_eq_none (by omega), e2, e3, ← q5, q6] at eob
    cases eob
end BSR
section BSB
variable {F : Nat} {c : px_CT} {sk : Nat → Nat × Nat × Nat} {L : Nat} {own : Nat → Nat × Nat} {τ : px_TT} {σ : px_S} {fs : List (Nat × (Nat → Nat))} {gs : List (List Nat × Int64)} {ws : List (List Nat)} {n : Nat} {b : Nat → Nat} {a : Int32} {Y : px_Y} {k N : Nat}
abbrev RnJ (v w : Int64) (σ : px_S) : Prop := v = w ∧ gI σ 0 = nI 0
theorem smL_0 {b : Nat → Nat} {g : Int32} {t : Nat} {v : Int64} (h : oK b 0 = false) : smL b g (t + 1) 0 v = smL b g t 1 v := by
  rw [smL_s, smS_f (fun w => by rw [h] at w; cases w.1)]
theorem k_Hsum {x y z : Int32} {q o n' : Nat} {b' : Nat → Nat} (hF : 65540 < F) (hC : CV sk L own τ fs gs ws n b a Y) (hM : MBR fs x y q o n' b' false) (e : f_H_objectAt F c 0 x y (cH sk L τ) = some (some (10 + 2 * q), cH sk L τ)) (c1 : ¬ z < 0) (c2 : z ≤ nI 5) : f_H_sum F c 0 x y z (cH sk L τ) = some (smL b' z (oS b' - 1) 1 (lN 0), cH sk L τ) := by
  have hob : obAt fs q = some (o, n', b', false) := by
    obtain ⟨_, _, _, _, _, _, _, h⟩ := hM
    exact h
  obtain ⟨h64, _, e5, _, _, hd⟩ := CF_ob hC.2.2.2.1 hob
  have hD := hd rfl
  have hE : eObj b' n' = 0 := by
    have w := hD.2.2
    rw [e5] at w
    exact w
  have hK0 := eObj_K0 hE
  have hS1 := (eObj_0 hE).1.1.2.1
  have k := k_sum_38 (F := F) (c := c) (g := z) (by omega) hD c1 (oS (cb (eI τ 8) (bsO fs q) n')) 0 F (lN 0) (Nat.zero_add _) (by rw [e5]; omega)
  rw [e5] at k
  generalize oS b' = S at *
  obtain ⟨t, rfl⟩ : ∃ t, S = t + 1 := ⟨S - 1, by omega⟩
  rw [smL_0 hK0] at k
  rw [Nat.add_sub_cancel]
  unfold f_H_sum
  rw [c_o (G0 hC.1), bs, e, xb_mk]
  dsimp only
  rw [if_neg c1, if_pos c2]
  exact k
/-- sum of the class, sum of the reference -/
theorem Bx_sum {x y z : Int32} (hF : 65540 < F) (hC : CV sk L own τ fs gs ws n b a Y) (hR : RV σ fs gs ws n b a Y) (hm : RMk sk L (k + 210)) (hN : n + (fs.map Prod.fst).sum ≤ N) : BT RnJ (fun ci σ => ci = 15 ∧ gI σ 0 = nI 1) sk L τ k N (f_H_sum F c 0 x y z (cH sk L τ)) (g_H_sum F c 0 x y z (cH sk L τ)) (fun h => f_M_sum F 1726 x y z (mh 1726 h σ)) := by
  have bad : g_H_sum F c 0 x y z (cH sk L τ) = some (15, cH sk L τ) → ((∀ q o n b, ¬ MBR fs x y q o n b false) ∨ z < 0 ∨ ¬ z ≤ nI 5) → BT RnJ (fun ci σ => ci = 15 ∧ gI σ 0 = nI 1) sk L τ k N (f_H_sum F c 0 x y z (cH sk L τ)) (g_H_sum F c 0 x y z (cH sk L τ)) (fun h => f_M_sum F 1726 x y z (mh 1726 h σ)) := fun hg hw =>
    ⟨fs, gs, ws, n, b, a, Y, hN, Or.inr ⟨15, τ, own, hg, K26_refl τ, RMk_le hm (by omega), hC, fun h hl => ⟨_, _, (q_sum hl (by omega) hR.2.1).2 hw, RV_0 hR (FR_I _ _ _), rfl, rfl⟩⟩⟩
  rcases k_objAt (F := F) (c := c) (i := x) (k := y) hC with ⟨q, o, n', b', hM, e⟩ | ⟨hM, e⟩
  · by_cases c1 : z < 0
    · refine bad ?_ (Or.inr (Or.inl c1))
      unfold g_H_sum g_H_sum_22
      rw [c_o (G0 hC.1), bs, e, xb_mk]
      dsimp only
      rw [if_pos c1]
    · by_cases c2 : z ≤ nI 5
      · have eC := k_Hsum (F := F) (c := c) hF hC hM e c1 c2
        exact ⟨fs, gs, ws, n, b, a, Y, hN, Or.inl ⟨_, sk, L, τ, own, eC, EX_refl, K26_refl τ, RMk_le hm (by omega), hC, fun h hl => ⟨_, _, (q_sum hl (by omega) hR.2.1).1 q o n' b' hM c1 c2, RV_0 hR (FR_I _ _ _), rfl, rfl⟩⟩⟩
      · refine bad ?_ (Or.inr (Or.inr c2))
        unfold g_H_sum g_H_sum_22
        rw [c_o (G0 hC.1), bs, e, xb_mk]
        dsimp only
        rw [if_neg c1, if_neg c2]
  · refine bad ?_ (Or.inl hM)
    unfold g_H_sum g_H_sum_22
    rw [c_o (G0 hC.1), bs, e, xb_mk]
end BSB
end
section
/-! the class's rows, with how much has been put into them (steps spelled out by sf/pp.py) -/
/-- cc bytes have been put: all of them stand there, or the row has run over -/
def rz (τ : px_TT) (r n cc : Nat) : Prop := (cc ≤ n → fI τ r 1 = nI cc ∧ fI τ r 2 = bI false) ∧ (n < cc → fI τ r 2 = bI true)
section CRZ
variable {F : Nat} {c : px_CT} {sk : Nat → Nat × Nat × Nat} {L : Nat} {r A n : Nat}
theorem rz_fr {τ τ' : px_TT} {cc : Nat} (h : rz τ r n cc) (f : ∀ k, fI τ' r k = fI τ r k) : rz τ' r n cc := by
  unfold rz at *
  rw [f 1, f 2]
  exact h
theorem rz_z {τ : px_TT} {z cc : Nat} (h : rz τ r n cc) (hn : n ≤ 65536) (hz : z ≤ n) (ez : fI τ r 1 = nI z) (hc : cc ≤ n) : z = cc := (nI_eq (by omega) (by omega)).mp (ez.symm.trans (h.1 hc).1)
theorem rz_s {τ : px_TT} {g : Nat → Int32} {z cc k : Nat} (h : rz τ r n cc) (hzc : cc ≤ n → z = cc) (hz : z + k ≤ n) : rz (tI (vI τ A g) r 1 (nI (z + k))) r n (cc + k) := by
  have e2 : fI (tI (vI τ A g) r 1 (nI (z + k))) r 2 = fI τ r 2 := tI_ne (Or.inr (by decide))
  refine ⟨fun q => ⟨?_, ?_⟩, fun q => ?_⟩
  · have e := hzc (by omega)
    rw [tI_at, e]
  · rw [e2]; exact (h.1 (by omega)).2
  · rw [e2]
    by_cases cq : cc ≤ n
    · have e := hzc cq
      omega
    · exact h.2 (by omega)
theorem k_clearZ {τ : px_TT} (h : rowOK sk L τ r A n) : ∃ τ', f_Row_clear F c r (cH sk L τ) = some ((), cH sk L τ') ∧ rowOK sk L τ' r A n ∧ frRw r A τ τ' ∧ rz τ' r n 0 := by
  refine ⟨tI (tI τ r 1 (nI 0)) r 2 (bI false), ?_, rowOK_2 (rowOK_1 h (Nat.zero_le _)), frRw_trans frRw_1 frRw_2, fun _ => ⟨(tI_ne (Or.inr (by decide))).trans tI_at, tI_at⟩, fun q => absurd q (Nat.not_lt_zero _)⟩
  unfold f_Row_clear
  rw [C10p1 h.1, bs, show (nI 0 : Int32) = bI false from rfl, C10z2 h.1, bs]
theorem k_put_3Z {v : Int64} {k : Nat} (hk : k < 2 ^ 31) : ∀ (d j f : Nat) (τ : px_TT) (cc : Nat), j + d = k → d < f → rowOK sk L τ r A n → rz τ r n cc → ∃ τ', f_Row_put_3 F c f r (nI k) v (nI j) (cH sk L τ) = some ((), cH sk L τ') ∧ rowOK sk L τ' r A n ∧ frRw r A τ τ' ∧ rz τ' r n (cc + d) := by
  intro d
  induction d with
  | zero =>
    intro j f τ cc hj hf h hz
    obtain ⟨f, rfl⟩ : ∃ x, f = x + 1 := ⟨f - 1, by omega⟩
    refine ⟨τ, ?_, h, frRw_refl, hz⟩
    unfold f_Row_put_3 f_Row_put_63
    rw [if_pos (nI_le (by omega) (by omega))]
  | succ d ih =>
    intro j f τ cc hj hf h hz0
    obtain ⟨f, rfl⟩ : ∃ x, f = x + 1 := ⟨f - 1, by omega⟩
    obtain ⟨z, hz, ez⟩ := h.2.2.2.2.1
    have hn := h.2.2.1
    have hzc : cc ≤ n → z = cc := fun q => rz_z hz0 hn hz ez q
    have ecc : cc + (d + 1) = cc + 1 + d := by omega
    unfold f_Row_put_3 f_Row_put_57
    rw [if_neg (nI_ge (by omega) (by omega)), C10g1 h.1, bs, C10r0 h.1 h.2.2.2.1, bs, c_l h.2.1 (by decide), bs, ez, nI_add, ecc]
    by_cases c1 : n ≤ z
    · have hz1 : rz (tI τ r 2 (bI true)) r n (cc + 1) := ⟨fun q => absurd (hzc (by omega)) (by omega), fun _ => tI_at⟩
      obtain ⟨τ', g1, g2, g3, g4⟩ := ih (j + 1) f (tI τ r 2 (bI true)) (cc + 1) (by omega) (by omega) (rowOK_2 h) hz1
      refine ⟨τ', ?_, g2, frRw_trans frRw_2 g3, g4⟩
      rw [if_pos (nI_le c1 (by omega)), show (nI 1 : Int32) = bI true from rfl, C10z2 h.1, bs]
      exact g1
    · have h1 := rowOK_v (g := upd (eI τ A) z (((((v.toUInt64 >>> (((nI 8) * (nI j)).toInt64.toUInt64 &&& Int64.toUInt64 63)).toInt64).toInt32).toInt8.toInt32).toInt8.toInt32)) h (upd_B h.2.2.2.2.2.2 (isB_8 _))
      have h2 := rowOK_1 (z := z + 1) h1 (by omega)
      obtain ⟨τ', g1, g2, g3, g4⟩ := ih (j + 1) f _ (cc + 1) (by omega) (by omega) h2 (rz_s hz0 hzc (by omega))
      refine ⟨τ', ?_, g2, frRw_trans (frRw_trans frRw_v frRw_1) g3, g4⟩
      rw [if_neg (nI_ge (by omega) (by omega)), bs, bs, c_sI h.2.1 (Or.inl rfl) (by omega) (by omega), bs, C10g1 h.1, bs]
      show ((xpI _ 10 1 r (fI τ r 1 + nI 1)).bind _) = _
      rw [ez, nI_add, C10p1 h.1, bs]
      exact g1
theorem k_putZ {τ : px_TT} {v : Int64} {k cc : Nat} (hF : k < F) (hk : k < 2 ^ 31) (h : rowOK sk L τ r A n) (hz : rz τ r n cc) : ∃ τ', f_Row_put F c r (nI k) v (cH sk L τ) = some ((), cH sk L τ') ∧ rowOK sk L τ' r A n ∧ frRw r A τ τ' ∧ rz τ' r n (cc + k) := k_put_3Z hk k 0 F τ cc (Nat.zero_add _) hF h hz
theorem k_fill3_10Z {w : Int32} {e : Nat} (he : e ≤ n) : ∀ (d j f : Nat) (τ : px_TT), j + d = e → d < f → rowOK sk L τ r A n → ∃ τ', f_Arrays_fill_3_10 F c f A (nI e) w (nI j) (cH sk L τ) = some ((), cH sk L τ') ∧ rowOK sk L τ' r A n ∧ frRw r A τ τ' ∧ ∀ a k, fI τ' a k = fI τ a k := by
  intro d
  induction d with
  | zero =>
    intro j f τ hj hf h
    have hn := h.2.2.1
    obtain ⟨f, rfl⟩ : ∃ x, f = x + 1 := ⟨f - 1, by omega⟩
    refine ⟨τ, ?_, h, frRw_refl, fun _ _ => rfl⟩
    unfold f_Arrays_fill_3_10 f_Arrays_fill_3_27
    rw [if_pos (nI_le (by omega) (by omega))]
  | succ d ih =>
    intro j f τ hj hf h
    have hn := h.2.2.1
    obtain ⟨f, rfl⟩ : ∃ x, f = x + 1 := ⟨f - 1, by omega⟩
    obtain ⟨τ', g1, g2, g3, g4⟩ := ih (j + 1) f _ (by omega) (by omega) (rowOK_v (g := upd (eI τ A) j w.toInt8.toInt32) h (upd_B h.2.2.2.2.2.2 (isB_8 _)))
    refine ⟨τ', ?_, g2, frRw_trans frRw_v g3, fun a k => g4 a k⟩
    unfold f_Arrays_fill_3_10
    rw [if_neg (nI_ge (by omega) (by omega)), c_sI h.2.1 (Or.inl rfl) (by omega) (by omega), bs, nI_add]
    exact g1
theorem k_fillTo_16Z {τ : px_TT} {e : Nat} {w : Int32} (hF : 65536 < F) (he : e < 2 ^ 62) (h : rowOK sk L τ r A n) : ∃ τ', f_Row_fillTo_16 F c r (lN e) w (cH sk L τ) = some ((), cH sk L τ') ∧ rowOK sk L τ' r A n ∧ frRw r A τ τ' ∧ fI τ' r 2 = fI τ r 2 ∧ ∀ z, z ≤ e → e ≤ n → fI τ r 1 = nI z → fI τ' r 1 = nI e := by
  obtain ⟨z, hz, ez⟩ := h.2.2.2.2.1
  have hn := h.2.2.1
  obtain ⟨m, hm⟩ : ∃ m, m = (if (nI n).toInt64 < lN e then (nI n).toInt64 else lN e).toInt32 := ⟨_, rfl⟩
  have hmq : ∃ q, q ≤ n ∧ m = nI q ∧ (e ≤ n → q = e) := by
    rw [nI_l (by omega)] at hm
    by_cases c2 : lN n < lN e
    · rw [if_pos c2, lN_i] at hm
      exact ⟨n, Nat.le_refl _, hm, fun w => absurd ((pk_lLT (by omega) (by omega)).mp c2) (by omega)⟩
    · rw [if_neg c2, lN_i] at hm
      exact ⟨e, Nat.le_of_not_lt (fun q => c2 ((pk_lLT (by omega) (by omega)).mpr q)), hm, fun _ => rfl⟩
  obtain ⟨q, q1, q3, q4⟩ := hmq
  unfold f_Row_fillTo_16 f_Row_fillTo_59
  rw [C10r0 h.1 h.2.2.2.1, bs, c_l h.2.1 (by decide), bs, C10g1 h.1, bs, ez, ← hm, q3]
  by_cases c1 : q ≤ z
  · refine ⟨τ, by rw [if_pos (nI_le c1 (by omega))], h, frRw_refl, rfl, fun z' h1 h2 h3 => ?_⟩
    have e1 := q4 h2
    have e2 : z = z' := (nI_eq (by omega) (by omega)).mp h3
    rw [ez, show z = e by omega]
  · obtain ⟨τ1, g1, g2, g3, g4⟩ := k_fill3_10Z (F := F) (c := c) (w := w.toInt8.toInt32) q1 (q - z) z F τ (by omega) (by omega) h
    refine ⟨tI τ1 r 1 (nI q), ?_, rowOK_1 g2 q1, frRw_trans g3 frRw_1, (tI_ne (Or.inr (by decide))).trans (g4 r 2), fun z' _ h2 _ => by rw [tI_at, q4 h2]⟩
    rw [if_neg (nI_ge (by omega) (by omega)), bs, bs]
    unfold f_Arrays_fill_3 f_Arrays_rangeCheck
    rw [c_l h.2.1 (by decide), bs, if_pos (nI_le (by omega) (by omega)), if_pos (nI_0le (by omega)), if_pos (nI_le q1 (by omega)), xb_mk, g1, xb_mk, C10p1 h.1, bs]
theorem k_fillToZ {τ : px_TT} {e cc k : Nat} {w : Int32} (hF : 65536 < F) (he : e < 2 ^ 62) (h : rowOK sk L τ r A n) (hz : rz τ r n cc) (hk : 1 ≤ k) (hx : cc ≤ n → e = cc + k) : ∃ τ', f_Row_fillTo F c r (lN e) w (cH sk L τ) = some ((), cH sk L τ') ∧ rowOK sk L τ' r A n ∧ frRw r A τ τ' ∧ rz τ' r n (cc + k) := by
  have hn := h.2.2.1
  unfold f_Row_fillTo
  rw [C10r0 h.1 h.2.2.2.1, bs, c_l h.2.1 (by decide), bs]
  by_cases c1 : lN e ≤ (nI n).toInt64
  · rw [if_pos c1]
    rw [nI_l (by omega)] at c1
    have c1' : e ≤ n := (pk_lLE (by omega) (by omega)).mp c1
    obtain ⟨τ', g1, g2, g3, g4, g5⟩ := k_fillTo_16Z (F := F) (c := c) (e := e) (w := w) hF he h
    refine ⟨τ', g1, g2, g3, fun q => ?_, fun q => ?_⟩
    · have hc : cc ≤ n := by omega
      have ee := hx hc
      exact ⟨by rw [g5 cc (by omega) c1' (hz.1 hc).1, ee], g4.trans (hz.1 hc).2⟩
    · by_cases hc : cc ≤ n
      · have ee := hx hc
        omega
      · exact g4.trans (hz.2 (by omega))
  · obtain ⟨τ', g1, g2, g3, g4, g5⟩ := k_fillTo_16Z (F := F) (c := c) (e := e) (w := w) hF he (rowOK_2 (b := true) h)
    refine ⟨τ', ?_, g2, frRw_trans frRw_2 g3, fun q => ?_, fun _ => g4.trans tI_at⟩
    · rw [if_neg c1, show (nI 1 : Int32) = bI true from rfl, C10z2 h.1, bs]
      exact g1
    · exfalso
      have ee := hx (by omega)
      refine c1 ?_
      rw [nI_l (by omega)]
      exact (pk_lLE (by omega) (by omega)).mpr (by omega)
theorem k_writeTo_2Z {p w : Nat} (hF : 1 < F) (hp : ob sk L 5 p) (hpr : p ≠ r) (hw : w ≤ 24) : ∀ (d j f : Nat) (τ : px_TT) (cc : Nat), j + d = w → d < f → fI τ p 3 = nI w → rowOK sk L τ r A n → rz τ r n cc → ∃ τ', f_Name_writeTo_2 F c f p r (nI j) (cH sk L τ) = some ((), cH sk L τ') ∧ rowOK sk L τ' r A n ∧ frRw r A τ τ' ∧ rz τ' r n (cc + d) := by
  intro d
  induction d with
  | zero =>
    intro j f τ cc hj hf ew h hz
    obtain ⟨f, rfl⟩ : ∃ x, f = x + 1 := ⟨f - 1, by omega⟩
    refine ⟨τ, ?_, h, frRw_refl, hz⟩
    unfold f_Name_writeTo_2 f_Name_writeTo_67
    rw [C5g3 hp, bs, ew, if_pos (nI_le (by omega) (by omega))]
  | succ d ih =>
    intro j f τ cc hj hf ew h hz
    obtain ⟨f, rfl⟩ : ∃ x, f = x + 1 := ⟨f - 1, by omega⟩
    have ecc : cc + (d + 1) = cc + 1 + d := by omega
    have step : ∀ w : Int64, ∃ τ', f_Name_writeTo_46 F c (f_Name_writeTo_2 F c f) p r (nI j) w (cH sk L τ) = some ((), cH sk L τ') ∧ rowOK sk L τ' r A n ∧ frRw r A τ τ' ∧ rz τ' r n (cc + 1 + d) := fun w => by
      obtain ⟨τ1, a1, a2, a3, a4⟩ := k_putZ (F := F) (c := c) (v := ((w.toUInt64 >>> (((nI 8) * ((nI j) &&& (nI 7))).toInt64.toUInt64 &&& Int64.toUInt64 63)).toInt64)) (k := 1) hF (by decide) h hz
      obtain ⟨τ2, b1, b2, b3, b4⟩ := ih (j + 1) f τ1 (cc + 1) (by omega) (by omega) ((a3.1 p 3 (Or.inl hpr)).trans ew) a2 a4
      refine ⟨τ2, ?_, b2, frRw_trans a3 b3, b4⟩
      unfold f_Name_writeTo_46
      rw [c_o h.1, bs, a1, xb_mk, nI_add]
      exact b1
    unfold f_Name_writeTo_2 f_Name_writeTo_67
    rw [C5g3 hp, bs, ew, if_neg (nI_ge (show j < w by omega) (by omega)), if_neg (nI_ge (show j < 24 by omega) (by decide)), C5g0 hp, C5g1 hp, C5g2 hp, bs, bs, bs, ecc]
    split
    · split
      · exact step _
      · exact step _
    · exact step _
theorem k_writeToZ {τ : px_TT} {p w cc : Nat} (hF : 24 < F) (hp : ob sk L 5 p) (hpr : p ≠ r) (hw : w ≤ 24) (ew : fI τ p 3 = nI w) (h : rowOK sk L τ r A n) (hz : rz τ r n cc) : ∃ τ', f_Name_writeTo F c p r (cH sk L τ) = some ((), cH sk L τ') ∧ rowOK sk L τ' r A n ∧ frRw r A τ τ' ∧ rz τ' r n (cc + w) := k_writeTo_2Z (by omega) hp hpr hw w 0 F τ cc (Nat.zero_add _) (by omega) ew h hz
theorem k_putHex_3Z {v : Int64} (hF : 1 < F) : ∀ (d f : Nat) (τ : px_TT) (cc : Nat), d ≤ 16 → d < f → rowOK sk L τ r A n → rz τ r n cc → ∃ τ', f_Row_putHex_3 F c f r v (nI (4 * d) - nI 4) (cH sk L τ) = some ((), cH sk L τ') ∧ rowOK sk L τ' r A n ∧ frRw r A τ τ' ∧ rz τ' r n (cc + d) := by
  intro d
  induction d with
  | zero =>
    intro f τ cc hd hf h hz
    obtain ⟨f, rfl⟩ : ∃ x, f = x + 1 := ⟨f - 1, by omega⟩
    refine ⟨τ, ?_, h, frRw_refl, hz⟩
    unfold f_Row_putHex_3 f_Row_putHex_52
    rw [if_pos (by decide)]
  | succ d ih =>
    intro f τ cc hd hf h hz
    obtain ⟨f, rfl⟩ : ∃ x, f = x + 1 := ⟨f - 1, by omega⟩
    have ecc : cc + (d + 1) = cc + 1 + d := by omega
    have e4 : nI (4 * (d + 1)) - nI 4 = nI (4 * d) := by rw [pk_sub (by omega), show 4 * (d + 1) - 4 = 4 * d by omega]
    have em : nI (4 * d) + Int32.ofInt (-4) = nI (4 * d) - nI 4 := by rw [Int32.sub_eq_add_neg]; rfl
    have step : ∀ w : Int64, ∃ τ', f_Row_putHex_43 F c (f_Row_putHex_3 F c f) r v (nI (4 * d)) r (nI 1) w (cH sk L τ) = some ((), cH sk L τ') ∧ rowOK sk L τ' r A n ∧ frRw r A τ τ' ∧ rz τ' r n (cc + 1 + d) := fun w => by
      obtain ⟨τ1, a1, a2, a3, a4⟩ := k_putZ (F := F) (c := c) (v := w) (k := 1) hF (by decide) h hz
      obtain ⟨τ2, b1, b2, b3, b4⟩ := ih f τ1 (cc + 1) (by omega) (by omega) a2 a4
      refine ⟨τ2, ?_, b2, frRw_trans a3 b3, b4⟩
      unfold f_Row_putHex_43
      rw [c_o h.1, bs, a1, xb_mk, em]
      exact b1
    rw [e4, ecc]
    unfold f_Row_putHex_3 f_Row_putHex_52
    rw [if_neg (show ¬ nI (4 * d) < 0 from nI_pos (by omega))]
    split
    · exact step _
    · exact step _
theorem k_putHexZ {τ : px_TT} {v : Int64} {cc : Nat} (hF : 16 < F) (h : rowOK sk L τ r A n) (hz : rz τ r n cc) : ∃ τ', f_Row_putHex F c r v (cH sk L τ) = some ((), cH sk L τ') ∧ rowOK sk L τ' r A n ∧ frRw r A τ τ' ∧ rz τ' r n (cc + 16) := k_putHex_3Z (by omega) 16 F τ cc (Nat.le_refl _) (by omega) h hz
end CRZ
/-- a run that only writes rows, and cc bytes have been put into the row r -/
def SZ (zb : Option Nat) (sk : Nat → Nat × Nat × Nat) (L : Nat) (τ0 : px_TT) (r n cc : Nat) (τ : px_TT) : Prop := SI zb sk L τ0 τ ∧ rz τ r n cc ∧ ∀ k, fN τ 0 k = fN τ0 0 k
section SZS
variable {F : Nat} {c : px_CT} {sk : Nat → Nat × Nat × Nat} {L : Nat} {zb : Option Nat} {τ0 τ τ' : px_TT} {r A n cc k : Nat} {α β : Type} {V : α → Prop} {W : β → Prop} {I J : px_TT → Prop}
theorem sz_x {m : Option (β × px_H)} {f : β → px_H → Option (α × px_H)} (h : Sf sk L J W m) (g : ∀ v τ, W v → J τ → Sf sk L I V (f v (cH sk L τ))) : Sf sk L I V (xb m f) := by
  obtain ⟨v, τ, e, hv, hJ⟩ := h
  rw [e, xb_mk]
  exact g v τ hv hJ
theorem sz_Rw {m : Option (β × px_H)} {v : β} (hI : SI zb sk L τ0 τ) (hN : ∀ k, fN τ 0 k = fN τ0 0 k) (hr : TRw r A n) (h : ∃ τ', m = some (v, cH sk L τ') ∧ rowOK sk L τ' r A n ∧ frRw r A τ τ' ∧ rz τ' r n cc) : Sf sk L (SZ zb sk L τ0 r n cc) Any m := by
  obtain ⟨τ', e, h1, h2, h3⟩ := h
  exact ⟨v, τ', e, any, SI_Rw hI hr h2 h1, h3, fun k => (h2.2.2.1 0 k).trans (hN k)⟩
theorem sz_clear (hI : SI zb sk L τ0 τ) (hN : ∀ k, fN τ 0 k = fN τ0 0 k) (hr : TRw r A n) : Sf sk L (SZ zb sk L τ0 r n 0) Any (f_Row_clear F c r (cH sk L τ)) := sz_Rw hI hN hr (k_clearZ (SI_row hI hr))
theorem sz_put {v : Int64} (hF : 65540 < F) (hr : TRw r A n) (hk : k ≤ 8) (hI : SZ zb sk L τ0 r n cc τ) : Sf sk L (SZ zb sk L τ0 r n (cc + k)) Any (f_Row_put F c r (nI k) v (cH sk L τ)) := sz_Rw hI.1 hI.2.2 hr (k_putZ (by omega) (by omega) (SI_row hI.1 hr) hI.2.1)
theorem sz_hex {v : Int64} (hF : 65540 < F) (hr : TRw r A n) (hI : SZ zb sk L τ0 r n cc τ) : Sf sk L (SZ zb sk L τ0 r n (cc + 16)) Any (f_Row_putHex F c r v (cH sk L τ)) := sz_Rw hI.1 hI.2.2 hr (k_putHexZ (by omega) (SI_row hI.1 hr) hI.2.1)
theorem sz_fill {w : Int32} (hF : 65540 < F) (hr : TRw r A n) (hk : 1 ≤ k) (hk2 : k ≤ 64) (hI : SZ zb sk L τ0 r n cc τ) : Sf sk L (SZ zb sk L τ0 r n (cc + k)) Any (f_Row_fillTo F c r ((fI τ r 1 + nI k).toInt64) w (cH sk L τ)) := by
  have hro := SI_row hI.1 hr
  obtain ⟨z, hz, ez⟩ := hro.2.2.2.2.1
  have hn := hro.2.2.1
  rw [ez, nI_add, nI_l (by omega)]
  exact sz_Rw hI.1 hI.2.2 hr (k_fillToZ (by omega) (by omega) hro hI.2.1 hk (fun q => by rw [rz_z hI.2.1 hn hz ez q]))
theorem sz_wto {p w : Nat} (hF : 65540 < F) (hr : TRw r A n) (hp : ob sk L 5 p) (hpr : p ≠ r) (hw : w ≤ 24) (ew : fI τ p 3 = nI w) (hI : SZ zb sk L τ0 r n cc τ) : Sf sk L (SZ zb sk L τ0 r n (cc + w)) Any (f_Name_writeTo F c p r (cH sk L τ)) := sz_Rw hI.1 hI.2.2 hr (k_writeToZ (by omega) hp hpr hw ew (SI_row hI.1 hr) hI.2.1)
end SZS
end
