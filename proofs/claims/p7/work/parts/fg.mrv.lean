/-! what holds of the reference between two calls (steps spelled out by sf/pp.py) -/
/-- whom members were taken for: names that are there -/
def CPs (s : px_TK) : Prop := ∀ q i, s.2.2.2 q = some i → i < s.1.2.1.length
theorem CPs_tk {s : px_TK} {b : Nat → Nat} {q : Nat} (h : CPs s) : CPs (tkM b q s) := fun q' i hi => Nat.lt_of_lt_of_le (h q' i hi) (tks_len _ _ _)
theorem CPs_tf1 {fs : px_FS} {f k : Nat} {p : px_TK × Bool} (h : CPs p.1) : CPs (tf1 fs f k p).1 := by
  unfold tf1
  split
  · exact h
  · split
    · exact h
    · rename_i y hy
      split
      · exact h
      · split
        · exact h
        · rename_i i hi
          refine CPs_tk (s := (p.1.1, p.1.2.1, p.1.2.2.1, fun x => if x = 8 * f + k then some i else p.1.2.2.2 x)) (fun q' i' he => ?_)
          have he : (if q' = 8 * f + k then some i else p.1.2.2.2 q') = some i' := he
          by_cases c : q' = 8 * f + k
          · rw [if_pos c] at he
            cases he
            exact hpf_lt hi
          · rw [if_neg c] at he
            exact h q' i' he
theorem CPs_tfL {fs : px_FS} {f c : Nat} {s : px_TK} (h : CPs s) : CPs (tfL fs f c s) := by
  unfold tfL
  refine whl_inv (st := tfS) (g := rdF fs f) (P := CPs) (fun s hs => ?_) c s h
  unfold rdF
  exact itr_inv (g := tf1 fs f) (P := fun p : px_TK × Bool => CPs p.1) (a := 0) (e := 8) (fun k p _ _ hp => CPs_tf1 hp) 8 0 (s, false) (Nat.le_refl _) (Nat.le_refl _) hs
theorem CPs_ta1 {fs : px_FS} {f : Nat} {s : px_TK} (h : CPs s) : CPs (ta1 fs f s) := by
  unfold ta1
  split
  · exact h
  · split
    · exact h
    · split
      · exact CPs_tfL h
      · exact CPs_tk h
theorem CPs_tas {fs : px_FS} : ∀ (c f : Nat) (s : px_TK), CPs s → CPs (itr (ta1 fs) f c s) := by
  intro c
  induction c with
  | zero => intro f s h; exact h
  | succ c ih =>
    intro f s h
    rw [itr_s]
    exact ih (f + 1) _ (CPs_ta1 h)
theorem CPs_taL {fs : px_FS} {xs : px_NL} {od : List Nat} : CPs (taL fs xs od) := CPs_tas 8 0 _ (fun q i h => by cases h)
/-- what the latest link left, as the reference has it -/
def RXo (σ : px_S) (fs : px_FS) (a : Int32) (Y : px_Y) : Prop := ((∀ q, q < 64 → isZ (gA σ 18 q)) ∧ ∃ nms, RNm σ nms ∧ ∀ q, q < 8 * fs.length → ∃ x y : Bool, gA σ 19 (q / 8) = bI x ∧ gA σ 18 q = bI y ∧ (x && y) = Y.1.1 q ∧ (Y.1.1 q = true → (Y.2.1 q = none ∧ gA σ 40 q = Int32.ofInt (-1)) ∨ ∃ i w, Y.2.1 q = some w ∧ nms[i]? = some w ∧ gA σ 40 q = nI i)) ∧ (a = 0 → (gI σ 50 = nI Y.2.2.1.length ∧ ∀ (i : Nat) (p : Nat × Nat × Nat × Nat × Nat × Nat), Y.2.2.1[i]? = some p → gA σ 52 i = nI p.1 ∧ gA σ 53 i = nI p.2.1 ∧ gA σ 54 i = nI p.2.2.1 ∧ gA σ 55 i = nI p.2.2.2.1 ∧ gA σ 56 i = nI p.2.2.2.2.1 ∧ gB σ 57 i = lN p.2.2.2.2.2) ∧ RNm σ (Y.2.2.2.1.map Prod.fst) ∧ (∀ (i : Nat) (x : List Nat × Int64), Y.2.2.2.1[i]? = some x → gB σ 29 i = x.2) ∧ RO σ Y.2.2.2.2)
theorem RXo_fr {σ σ' : px_S} {fs : px_FS} {a : Int32} {Y : px_Y} (h : RXo σ fs a Y) (g : ∀ k, k ∈ [20, 48, 50] → gI σ' k = gI σ k) (gA' : ∀ k, k ∈ [18, 19, 21, 22, 40, 49, 52, 53, 54, 55, 56] → gA σ' k = gA σ k) (gB' : ∀ k, k ∈ [29, 57] → gB σ' k = gB σ k) : RXo σ' fs a Y := by
  obtain ⟨⟨h0, nms, h1, h2⟩, h3⟩ := h
  refine ⟨⟨fun q hq => by rw [gA' 18 (by decide)]; exact h0 q hq, nms, RNm_eq h1 (g 20 (by decide)) (gA' 21 (by decide)) (gA' 22 (by decide)), fun q hq => by rw [gA' 19 (by decide), gA' 18 (by decide), gA' 40 (by decide)]; exact h2 q hq⟩, fun ha => ?_⟩
  obtain ⟨⟨k1, k2⟩, k3, k4, k5, k6, k7⟩ := h3 ha
  refine ⟨⟨(g 50 (by decide)).trans k1, fun i p hp => by rw [gA' 52 (by decide), gA' 53 (by decide), gA' 54 (by decide), gA' 55 (by decide), gA' 56 (by decide), gB' 57 (by decide)]; exact k2 i p hp⟩, RNm_eq k3 (g 20 (by decide)) (gA' 21 (by decide)) (gA' 22 (by decide)), fun i x hx => by rw [gB' 29 (by decide)]; exact k4 i x hx, (g 48 (by decide)).trans k5, k6, fun i d hd => by rw [gA' 49 (by decide)]; exact k7 i d hd⟩
theorem RXo_FR {σ σ' : px_S} {fs : px_FS} {a : Int32} {Y : px_Y} {I J A B : List Nat} (h : RXo σ fs a Y) (f : FR I J A B σ σ') (h1 : ∀ k, k ∈ [20, 48, 50] → k ∉ I) (h3 : ∀ k, k ∈ [18, 19, 21, 22, 40, 49, 52, 53, 54, 55, 56] → k ∉ A) (h4 : ∀ k, k ∈ [29, 57] → k ∉ B) : RXo σ' fs a Y := RXo_fr h (fun k hk => f.1 k (h1 k hk)) (fun k hk => f.2.2.1 k (h3 k hk)) (fun k hk => f.2.2.2 k (h4 k hk))
/-- a file is added: it was not taken -/
theorem RXo_add {σ σ' : px_S} {fs : px_FS} {x : Nat × (Nat → Nat)} {a : Int32} {Y : px_Y} {I J A B : List Nat} (h : RXo σ fs a Y) (hl : fs.length < 8) (hy : ∀ q, 8 * fs.length ≤ q → q < 64 → Y.1.1 q = false) (f : FR I J A B σ σ') (h1 : ∀ k, k ∈ [20, 48, 50] → k ∉ I) (h3 : ∀ k, k ∈ [18, 21, 22, 40, 49, 52, 53, 54, 55, 56] → k ∉ A) (h4 : ∀ k, k ∈ [29, 57] → k ∉ B) (e0 : gA σ' 19 fs.length = nI 0) (e1 : ∀ i, i ≠ fs.length → gA σ' 19 i = gA σ 19 i) : RXo σ' (fs ++ [x]) a Y := by
  have g : ∀ k, k ∈ [20, 48, 50] → gI σ' k = gI σ k := fun k hk => f.1 k (h1 k hk)
  have gA' : ∀ k, k ∈ [18, 21, 22, 40, 49, 52, 53, 54, 55, 56] → gA σ' k = gA σ k := fun k hk => f.2.2.1 k (h3 k hk)
  have gB' : ∀ k, k ∈ [29, 57] → gB σ' k = gB σ k := fun k hk => f.2.2.2 k (h4 k hk)
  obtain ⟨⟨h0, nms, h1, h2⟩, h3⟩ := h
  refine ⟨⟨fun q hq => by rw [gA' 18 (by decide)]; exact h0 q hq, nms, RNm_eq h1 (g 20 (by decide)) (gA' 21 (by decide)) (gA' 22 (by decide)), fun q hq => ?_⟩, fun ha => ?_⟩
  · rw [List.length_append, List.length_singleton] at hq
    rw [gA' 18 (by decide), gA' 40 (by decide)]
    by_cases c : q < 8 * fs.length
    · rw [e1 _ (by omega)]
      exact h2 q c
    · obtain ⟨y, hy'⟩ := h0 q (by omega)
      have hf := hy q (by omega) (by omega)
      rw [show q / 8 = fs.length by omega, e0, hf]
      exact ⟨false, y, rfl, hy', rfl, fun w => by cases w⟩
  · obtain ⟨⟨k1, k2⟩, k3, k4, k5, k6, k7⟩ := h3 ha
    refine ⟨⟨(g 50 (by decide)).trans k1, fun i p hp => by rw [gA' 52 (by decide), gA' 53 (by decide), gA' 54 (by decide), gA' 55 (by decide), gA' 56 (by decide), gB' 57 (by decide)]; exact k2 i p hp⟩, RNm_eq k3 (g 20 (by decide)) (gA' 21 (by decide)) (gA' 22 (by decide)), fun i x hx => by rw [gB' 29 (by decide)]; exact k4 i x hx, (g 48 (by decide)).trans k5, k6, fun i d hd => by rw [gA' 49 (by decide)]; exact k7 i d hd⟩
theorem RXo_drop {σ : px_S} {fs : px_FS} {x : Nat × (Nat → Nat)} {a : Int32} {Y : px_Y} (h : RXo σ (fs ++ [x]) a Y) : RXo σ fs a (dropY fs.length Y) := by
  obtain ⟨⟨h0, nms, h1, h2⟩, h3⟩ := h
  refine ⟨⟨h0, nms, h1, fun q hq => ?_⟩, h3⟩
  have w := h2 q (by rw [List.length_append]; omega)
  show ∃ x y : Bool, gA σ 19 (q / 8) = bI x ∧ gA σ 18 q = bI y ∧ (x && y) = (decide (q < 8 * fs.length) && Y.1.1 q) ∧ ((decide (q < 8 * fs.length) && Y.1.1 q) = true → ((if q < 8 * fs.length then Y.2.1 q else none) = none ∧ gA σ 40 q = Int32.ofInt (-1)) ∨ ∃ i w, (if q < 8 * fs.length then Y.2.1 q else none) = some w ∧ nms[i]? = some w ∧ gA σ 40 q = nI i)
  rw [decide_eq_true hq, Bool.true_and, if_pos hq]
  exact w
/-- what a link leaves -/
theorem RXo_link {σ : px_S} {fs : px_FS} {s : px_TK} {gs : List (List Nat × Int64)} {ws : List (List Nat)} {k : Nat} {ll : List Nat} {ad : Nat → Nat} {NA : px_NA} (es : s = taL fs (xs0 gs ws) (od0 gs)) (hL : LNP fs s σ) (hk : k ≤ 4) (h0 : k = 0 → RLa σ (tQf s.2.2.1) (tB fs s.2.2.1) ll ∧ (∀ (P x : Nat), ll[P]? = some x → gB σ 57 P = lN (ad x)) ∧ (∀ j, j < (xsN s).length → gB σ 29 j = NA.1 j) ∧ LKZ σ (vFe NA.2.2.2.2) NA.2.1) : RXo σ fs (nI k) (lnY fs s ll ad NA) := by
  obtain ⟨⟨l1, l2, l3, l4, l5, l6, l7, ⟨l8, l8'⟩, l9⟩, _⟩ := hL
  have hcp : CPs s := by rw [es]; exact CPs_taL
  have h8 := l2.2.1
  refine ⟨⟨fun q hq => ⟨_, l8 q hq⟩, (xsN s).map Prod.fst, l3.1, fun q hq => ?_⟩, fun ha => ?_⟩
  · refine ⟨true, decide (q ∈ s.2.2.1), l8' _ (by omega), l8 q (by omega), rfl, fun _ => ?_⟩
    rw [l9 q (by omega)]
    show ((s.2.2.2 q).bind (fun i => (s.1.2.1.map Prod.fst)[i]?) = none ∧ tdA (s.2.2.2 q) = Int32.ofInt (-1)) ∨ ∃ i w, (s.2.2.2 q).bind (fun i => (s.1.2.1.map Prod.fst)[i]?) = some w ∧ ((xsN s).map Prod.fst)[i]? = some w ∧ tdA (s.2.2.2 q) = nI i
    cases e : s.2.2.2 q with
    | none => exact Or.inl ⟨rfl, rfl⟩
    | some i =>
      have hi := hcp q i e
      obtain ⟨w, hw⟩ : ∃ w, (s.1.2.1.map Prod.fst)[i]? = some w := ⟨_, List.getElem?_eq_getElem (by rw [List.length_map]; exact hi)⟩
      exact Or.inr ⟨i, w, hw, by rw [xsN_fst]; exact hw, rfl⟩
  · have k0 : k = 0 := (nI_eq (b := 0) (by omega) (by decide)).mp ha
    obtain ⟨⟨r1, r2⟩, r3, r4, _⟩ := h0 k0
    refine ⟨⟨?_, fun i p hp => ?_⟩, ?_, fun i x hx => ?_, l4⟩
    · show gI σ 50 = nI (List.map _ ll).length
      rw [List.length_map]
      exact r1
    · have hp : (ll.map (fun x => (tQf s.2.2.1 (x / 24) / 8, tQf s.2.2.1 (x / 24) % 8, x % 24, oG (tB fs s.2.2.1 (x / 24)) (x % 24), oZ (tB fs s.2.2.1 (x / 24)) (x % 24), ad x)))[i]? = some p := hp
      rw [List.getElem?_map] at hp
      cases ex : ll[i]? with
      | none => rw [ex] at hp; cases hp
      | some x =>
        rw [ex] at hp
        have hp := Option.some.inj hp
        rw [← hp]
        obtain ⟨_, x2, x3, x4, x5, x6⟩ := r2 i x ex
        exact ⟨x2, x3, x4, x5, x6, r3 i x ex⟩
    · show RNm σ (((xsN s).mapIdx (fun j x => (x.1, NA.1 j))).map Prod.fst)
      rw [mI_fst]
      exact l3.1
    · have hx : ((xsN s).mapIdx (fun j x => (x.1, NA.1 j)))[i]? = some x := hx
      rw [List.getElem?_mapIdx] at hx
      cases ey : (xsN s)[i]? with
      | none => rw [ey] at hx; cases hx
      | some y =>
        rw [ey] at hx
        have hx := Option.some.inj hx
        rw [← hx]
        exact r4 i (List.getElem?_eq_some_iff.mp ey).1
def RX (σ : px_S) (fs : px_FS) (a : Int32) (Y : px_Y) : Prop := RXo σ fs a Y ∧ (a = 0 → LKZ σ Y.1.2.1 Y.1.2.2)
theorem LKZ_fr {σ σ' : px_S} {fe : Nat} {th : Nat → Bool} (h : LKZ σ fe th) (e1 : gI σ' 43 = gI σ 43) (e2 : gI σ' 15 = gI σ 15) (e3 : gA σ' 59 = gA σ 59) : LKZ σ' fe th := ⟨h.1, e1.trans h.2.1, e2.trans h.2.2.1, fun j hj => by rw [e3]; exact h.2.2.2 j hj⟩
theorem RX_fr {σ σ' : px_S} {fs : px_FS} {a : Int32} {Y : px_Y} (h : RX σ fs a Y) (g : ∀ k, k ∈ [15, 20, 43, 48, 50] → gI σ' k = gI σ k) (gA' : ∀ k, k ∈ [18, 19, 21, 22, 40, 49, 52, 53, 54, 55, 56, 59] → gA σ' k = gA σ k) (gB' : ∀ k, k ∈ [29, 57] → gB σ' k = gB σ k) : RX σ' fs a Y := ⟨RXo_fr h.1 (fun k hk => g k (by revert k; decide)) (fun k hk => gA' k (by revert k; decide)) gB', fun ha => LKZ_fr (h.2 ha) (g 43 (by decide)) (g 15 (by decide)) (gA' 59 (by decide))⟩
theorem RX_FR {σ σ' : px_S} {fs : px_FS} {a : Int32} {Y : px_Y} {I J A B : List Nat} (h : RX σ fs a Y) (f : FR I J A B σ σ') (h1 : ∀ k, k ∈ [15, 20, 43, 48, 50] → k ∉ I) (h3 : ∀ k, k ∈ [18, 19, 21, 22, 40, 49, 52, 53, 54, 55, 56, 59] → k ∉ A) (h4 : ∀ k, k ∈ [29, 57] → k ∉ B) : RX σ' fs a Y := RX_fr h (fun k hk => f.1 k (h1 k hk)) (fun k hk => f.2.2.1 k (h3 k hk)) (fun k hk => f.2.2.2 k (h4 k hk))
theorem RX_add {σ σ' : px_S} {fs : px_FS} {x : Nat × (Nat → Nat)} {a : Int32} {Y : px_Y} {I J A B : List Nat} (h : RX σ fs a Y) (hl : fs.length < 8) (hy : ∀ q, 8 * fs.length ≤ q → q < 64 → Y.1.1 q = false) (f : FR I J A B σ σ') (h1 : ∀ k, k ∈ [15, 20, 43, 48, 50] → k ∉ I) (h3 : ∀ k, k ∈ [18, 21, 22, 40, 49, 52, 53, 54, 55, 56, 59] → k ∉ A) (h4 : ∀ k, k ∈ [29, 57] → k ∉ B) (e0 : gA σ' 19 fs.length = nI 0) (e1 : ∀ i, i ≠ fs.length → gA σ' 19 i = gA σ 19 i) : RX σ' (fs ++ [x]) a Y := ⟨RXo_add h.1 hl hy f (fun k hk => h1 k (by revert k; decide)) (fun k hk => h3 k (by revert k; decide)) h4 e0 e1, fun ha => LKZ_fr (h.2 ha) (f.1 43 (h1 43 (by decide))) (f.1 15 (h1 15 (by decide))) (f.2.2.1 59 (h3 59 (by decide)))⟩
theorem RX_drop {σ : px_S} {fs : px_FS} {x : Nat × (Nat → Nat)} {a : Int32} {Y : px_Y} (h : RX σ (fs ++ [x]) a Y) : RX σ fs a (dropY fs.length Y) := ⟨RXo_drop h.1, h.2⟩
theorem RX_link {σ : px_S} {fs : px_FS} {s : px_TK} {gs : List (List Nat × Int64)} {ws : List (List Nat)} {k : Nat} {ll : List Nat} {ad : Nat → Nat} {NA : px_NA} (es : s = taL fs (xs0 gs ws) (od0 gs)) (hL : LNP fs s σ) (hk : k ≤ 4) (h0 : k = 0 → RLa σ (tQf s.2.2.1) (tB fs s.2.2.1) ll ∧ (∀ (P x : Nat), ll[P]? = some x → gB σ 57 P = lN (ad x)) ∧ (∀ j, j < (xsN s).length → gB σ 29 j = NA.1 j) ∧ LKZ σ (vFe NA.2.2.2.2) NA.2.1) : RX σ fs (nI k) (lnY fs s ll ad NA) := ⟨RXo_link es hL hk h0, fun ha => (h0 ((nI_eq (b := 0) (by omega) (by decide)).mp ha)).2.2.2⟩
/-- what hangs on the latest link -/
def RVm (σ : px_S) : Prop := (∃ nms, RNm σ nms ∧ CAu σ nms) ∧ (∃ n, n ≤ 1536 ∧ gI σ 50 = nI n) ∧ (gI σ 13 = 0 → (∃ nS nD zf uf gf ff mf lf df, MPs σ nS nD zf uf gf ff mf lf df) ∧ ∃ e nD th lf df, NMs σ e nD th lf df)
def RVl (σ : px_S) (fs : px_FS) (a : Int32) (Y : px_Y) : Prop := (∃ nms, RNm σ nms ∧ CAu σ nms) ∧ (∃ n, n ≤ 1536 ∧ gI σ 50 = nI n) ∧ (gI σ 13 = 0 → (∃ nS nD zf uf gf ff mf lf df, MPs σ nS nD zf uf gf ff mf lf df) ∧ ∃ e nD th lf df, NMs σ e nD th lf df) ∧ RX σ fs a Y
def RVc (σ : px_S) (fs : px_FS) (a : Int32) (Y : px_Y) : Prop := RVl σ fs a Y ∧ gI σ 13 = a ∧ (∀ k, isB (gA σ 42 k)) ∧ (∀ k, isB (gA σ 91 k)) ∧ (∃ ch, gI σ 98 = bI ch) ∧ RC σ
def RV (σ : px_S) (fs : px_FS) (gs : List (List Nat × Int64)) (ws : List (List Nat)) (n : Nat) (b : Nat → Nat) (a : Int32) (Y : px_Y) : Prop := RT σ n b ∧ RF σ fs ∧ RG σ gs ∧ RW σ ws ∧ OUo σ ∧ MV σ ∧ MNa σ ∧ RVc σ fs a Y
section MRV
variable {F m : Nat} {h : px_H} {σ0 σ σ' : px_S} {fs : px_FS} {gs : List (List Nat × Int64)} {ws : List (List Nat)} {n : Nat} {b : Nat → Nat} {a : Int32} {Y : px_Y} {I J A B : List Nat}
theorem RT_FR (ht : RT σ n b) (f : FR I J A B σ σ') (h2 : 2 ∉ I) (h1 : 1 ∉ A) : RT σ' n b := by
  have e := f.2.2.1 1 h1
  exact ⟨(f.1 2 h2).trans ht.1, ht.2.1, by rw [e]; exact ht.2.2.1, by rw [e]; exact ht.2.2.2⟩
theorem MV_FR (hv : MV σ) (f : FR I J A B σ σ') (h1 : 102 ∉ I) (h2 : 106 ∉ B ∧ 107 ∉ B ∧ 108 ∉ B) : MV σ' := by
  obtain ⟨r, hr, er, hx⟩ := hv
  exact ⟨r, hr, (f.1 102 h1).trans er, fun i hi => by rw [f.2.2.2 106 h2.1, f.2.2.2 107 h2.2.1, f.2.2.2 108 h2.2.2]; exact hx i hi⟩
theorem MNa_FR (hv : MNa σ) (f : FR I J A B σ σ') (h1 : 44 ∉ I) (h2 : 45 ∉ A ∧ 46 ∉ A) : MNa σ' := by
  obtain ⟨r, hr, er, hx⟩ := hv
  exact ⟨r, hr, (f.1 44 h1).trans er, fun i hi => by rw [f.2.2.1 45 h2.1, f.2.2.1 46 h2.2]; exact hx i hi⟩
theorem RVl_F0 (hv : RVm σ) (f : FR I J A B σ σ') (h1 : ∀ k, k ∈ [13, 15, 20, 43, 48, 50] → k ∉ I) (h3 : ∀ k, k ∈ [18, 21, 22, 39, 40, 49, 52, 53, 54, 55, 56, 59] → k ∉ A) : RVm σ' := by
  obtain ⟨⟨nms, hn, hc⟩, ⟨n, hn1, hn2⟩, hd⟩ := hv
  have g : ∀ k, k ∈ [13, 15, 20, 43, 48, 50] → gI σ' k = gI σ k := fun k hk => f.1 k (h1 k hk)
  have gA' : ∀ k, k ∈ [18, 21, 22, 39, 40, 49, 52, 53, 54, 55, 56, 59] → gA σ' k = gA σ k := fun k hk => f.2.2.1 k (h3 k hk)
  refine ⟨⟨nms, RNm_eq hn (g 20 (by decide)) (gA' 21 (by decide)) (gA' 22 (by decide)), fun q hq => ?_⟩, ⟨n, hn1, (g 50 (by decide)).trans hn2⟩, fun h0 => ?_⟩
  · rw [gA' 18 (by decide), gA' 40 (by decide)]; exact hc q hq
  · obtain ⟨⟨nS, nD, zf, uf, gf, ff, mf, lf, df, ⟨m1, m2, m3⟩, m4, m5, m6⟩, e, nD', th, lf', df', ⟨n1, n2⟩, ⟨n3, n4⟩, n5, n6, n7⟩ := hd ((g 13 (by decide)).symm.trans h0)
    refine ⟨⟨nS, nD, zf, uf, gf, ff, mf, lf, df, ⟨m1, (g 50 (by decide)).trans m2, fun p hp => ?_⟩, m4, (g 48 (by decide)).trans m5, fun i hi => ?_⟩, e, nD', th, lf', df', ⟨n1, (g 43 (by decide)).trans n2⟩, ⟨(g 15 (by decide)).trans n3, fun j hj => ?_⟩, n5, (g 48 (by decide)).trans n6, fun i hi => ?_⟩
    · rw [gA' 56 (by decide), gA' 54 (by decide), gA' 55 (by decide), gA' 52 (by decide), gA' 53 (by decide)]; exact m3 p hp
    · rw [gA' 49 (by decide), gA' 22 (by decide)]; exact m6 i hi
    · rw [gA' 59 (by decide)]; exact n4 j hj
    · rw [gA' 49 (by decide), gA' 22 (by decide), gA' 39 (by decide)]; exact n7 i hi
theorem RVl_FR (hv : RVl σ fs a Y) (f : FR I J A B σ σ') (h1 : ∀ k, k ∈ [13, 15, 20, 43, 48, 50] → k ∉ I) (h3 : ∀ k, k ∈ [18, 19, 21, 22, 39, 40, 49, 52, 53, 54, 55, 56, 59] → k ∉ A) (h4 : ∀ k, k ∈ [29, 57] → k ∉ B) : RVl σ' fs a Y := by
  obtain ⟨w1', w2', w3'⟩ := RVl_F0 ⟨hv.1, hv.2.1, hv.2.2.1⟩ f h1 (fun k hk => h3 k (by revert k; decide))
  exact ⟨w1', w2', w3', RX_FR hv.2.2.2 f (fun k hk => h1 k (by revert k; decide)) (fun k hk => h3 k (by revert k; decide)) h4⟩
theorem RVc_FR (hv : RVc σ fs a Y) (f : FR I J A B σ σ') (h1 : ∀ k, k ∈ [13, 15, 20, 43, 48, 50, 98] → k ∉ I) (h3 : ∀ k, k ∈ [18, 19, 21, 22, 39, 40, 42, 49, 52, 53, 54, 55, 56, 59, 91, 97, 116] → k ∉ A) (h4 : ∀ k, k ∈ [29, 57] → k ∉ B) : RVc σ' fs a Y := by
  obtain ⟨v1, v2, v3, v4, ⟨ch, v5⟩, v6⟩ := hv
  exact ⟨RVl_FR v1 f (fun k hk => h1 k (List.mem_append_left [98] hk)) (fun k hk => h3 k (by simp only [List.mem_cons, List.not_mem_nil, or_false] at hk ⊢; omega)) h4, (f.1 13 (h1 13 (by decide))).trans v2, fun k => by rw [f.2.2.1 42 (h3 42 (by decide))]; exact v3 k, fun k => by rw [f.2.2.1 91 (h3 91 (by decide))]; exact v4 k, ⟨ch, (f.1 98 (h1 98 (by decide))).trans v5⟩, RC_FR v6 f (h3 116 (by decide)) (h3 97 (by decide))⟩
/-- calls that only write OUT and what they work with -/
theorem RV_out (hv : RV σ fs gs ws n b a Y) (f : FR [0, 4, 123, 124, 125, 126, 127] [] [3, 117, 118, 119, 120, 121, 122, 128, 129] [] σ σ') (ho : OUo σ') : RV σ' fs gs ws n b a Y := by
  obtain ⟨v1, v2, v3, v4, v5, v6, v7, v8⟩ := hv
  exact ⟨RT_FR v1 f (by decide) (by decide), RF_FR v2 f (by decide) (by decide), RG_FR v3 f (by decide) (by decide) (by decide), RW_FR v4 f (by decide) (by decide), ho, MV_FR v6 f (by decide) (by decide), MNa_FR v7 f (by decide) (by decide), RVc_FR v8 f (by decide) (by decide) (by decide)⟩
theorem RV_0 (hv : RV σ fs gs ws n b a Y) (f : FR [0] [] [] [] σ σ') : RV σ' fs gs ws n b a Y := RV_out hv (FR_mono f (by decide) (by decide) (by decide) (by decide)) (OUo_FR hv.2.2.2.2.1 f (by decide) (by decide))
theorem RV_W (hv : RV σ fs gs ws n b a Y) (w : OWe σ σ') : RV σ' fs gs ws n b a Y := by
  obtain ⟨cc, hcc, hW⟩ := w
  exact RV_out hv (FR_mono hW.1 (by decide) (by decide) (by decide) (by decide)) ⟨⟨cc, hcc, hW.2.1⟩, hW.2.2⟩
/-- a call that is safe: what holds then -/
def UM (m : Nat) (h : px_H) (fs : px_FS) (gs : List (List Nat × Int64)) (ws : List (List Nat)) (n : Nat) (b : Nat → Nat) (a : Int32) (Y : px_Y) {α : Type} (o : Option (α × px_H)) : Prop := ∃ v σ', o = some (v, mh m h σ') ∧ RV σ' fs gs ws n b a Y
theorem UM_0 {α : Type} {o : Option (α × px_H)} (hv : RV σ fs gs ws n b a Y) (w : Sm m h (FR [0] [] [] [] σ) Any o) : UM m h fs gs ws n b a Y o := by
  obtain ⟨v, σ', e, _, f⟩ := w
  exact ⟨v, σ', e, RV_0 hv f⟩
theorem UM_W {α : Type} {o : Option (α × px_H)} (hv : RV σ fs gs ws n b a Y) (w : Sm m h (OWe σ) Any o) : UM m h fs gs ws n b a Y o := by
  obtain ⟨v, σ', e, _, f⟩ := w
  exact ⟨v, σ', e, RV_W hv f⟩
theorem u_look {x : Int32} (hm : m ≤ h.length) (hv : RV σ fs gs ws n b a Y) : UM m h fs gs ws n b a Y (f_M_look F m x (mh m h σ)) := UM_0 hv (sm_look hm (FR_refl σ))
theorem u_place {x : Int32} (hm : m ≤ h.length) (hv : RV σ fs gs ws n b a Y) : UM m h fs gs ws n b a Y (f_M_place F m x (mh m h σ)) := by
  obtain ⟨k, k1, k2⟩ := hv.2.2.2.2.2.2.2.1.2.1
  exact UM_0 hv (sm_place hm k1 k2 (FR_refl σ))
theorem u_section {x y : Int32} (hm : m ≤ h.length) (hv : RV σ fs gs ws n b a Y) : UM m h fs gs ws n b a Y (f_M_section F m x y (mh m h σ)) := by
  obtain ⟨k, k1, k2⟩ := hv.2.2.2.2.2.2.2.1.2.1
  exact UM_0 hv (sm_section hm k1 k2 (FR_refl σ))
theorem u_flags {x : Int64} (hm : m ≤ h.length) (hF : 65540 < F) (hv : RV σ fs gs ws n b a Y) : UM m h fs gs ws n b a Y (f_M_flags F m x (mh m h σ)) := UM_0 hv (sm_flags hm (by omega) hv.2.2.2.2.2.1 (FR_refl σ))
theorem u_peek {x : Int64} (hm : m ≤ h.length) (hF : 65540 < F) (hv : RV σ fs gs ws n b a Y) : UM m h fs gs ws n b a Y (f_M_peek F m x (mh m h σ)) := UM_0 hv (sm_peek hm (by omega) hv.2.2.2.2.2.1 (FR_refl σ))
theorem u_out {x : Int32} (hm : m ≤ h.length) (hF : 65540 < F) (hv : RV σ fs gs ws n b a Y) : UM m h fs gs ws n b a Y (f_M_out F m x (mh m h σ)) := by
  obtain ⟨k, k1, k2⟩ := hv.2.2.2.2.1.1
  exact UM_0 hv (sm_out hm (by omega) k1 k2 (FR_refl σ))
theorem u_taken {x y : Int32} (hm : m ≤ h.length) (hv : RV σ fs gs ws n b a Y) : UM m h fs gs ws n b a Y (f_M_taken F m x y (mh m h σ)) := UM_0 hv (sm_taken hm hv.2.1 (FR_refl σ))
theorem u_sum {x y z : Int32} (hm : m ≤ h.length) (hF : 65540 < F) (hv : RV σ fs gs ws n b a Y) : UM m h fs gs ws n b a Y (f_M_sum F m x y z (mh m h σ)) := UM_0 hv (sm_sum hm (by omega) hv.2.1 (FR_refl σ))
theorem u_list {x y : Int32} (hm : m ≤ h.length) (hF : 65540 < F) (hv : RV σ fs gs ws n b a Y) : UM m h fs gs ws n b a Y (f_M_list F m x y (mh m h σ)) := UM_W hv (sm_list hm hF hv.2.1 hv.2.2.2.2.1 (FR_refl σ))
theorem u_near {x : Int64} (hm : m ≤ h.length) (hF : 65540 < F) (hv : RV σ fs gs ws n b a Y) : UM m h fs gs ws n b a Y (f_M_near F m x (mh m h σ)) := UM_W hv (sm_near hm hF hv.2.2.2.2.2.1 hv.2.2.2.2.2.2.1 hv.2.2.2.2.1)
theorem u_map (hm : m ≤ h.length) (hF : 65540 < F) (hv : RV σ fs gs ws n b a Y) : UM m h fs gs ws n b a Y (f_M_map F m (mh m h σ)) := by
  have hl := hv.2.2.2.2.2.2.2.1.2.2.1
  by_cases c : gI σ 13 = 0
  · obtain ⟨nS, nD, zf, uf, gf, ff, mf, lf, df, hM⟩ := (hl c).1
    exact UM_W hv (sm_map hm hF hv.2.2.2.2.1 (fun _ => hM))
  · exact UM_W hv (sm_map (nS := 0) (nD := 0) (zf := id) (uf := id) (gf := id) (ff := id) (mf := id) (lf := id) (df := id) hm hF hv.2.2.2.2.1 (fun q => absurd q c))
theorem u_named (hm : m ≤ h.length) (hF : 65540 < F) (hv : RV σ fs gs ws n b a Y) : UM m h fs gs ws n b a Y (f_M_named F m (mh m h σ)) := by
  have hl := hv.2.2.2.2.2.2.2.1.2.2.1
  by_cases c : gI σ 13 = 0
  · obtain ⟨e, nD, th, lf, df, hM⟩ := (hl c).2
    exact UM_W hv (sm_named hm hF hv.2.2.2.2.1 (fun _ => hM))
  · exact UM_W hv (sm_named (e := 0) (nD := 0) (th := fun _ => false) (lf := id) (df := id) hm hF hv.2.2.2.2.1 (fun q => absurd q c))
theorem u_cause {x y : Int32} (hm : m ≤ h.length) (hF : 65540 < F) (hv : RV σ fs gs ws n b a Y) : UM m h fs gs ws n b a Y (f_M_cause F m x y (mh m h σ)) := by
  obtain ⟨nms, h1, h2⟩ := hv.2.2.2.2.2.2.2.1.1
  obtain ⟨v, σ', e, _, f, ho⟩ := sm_cause (F := F) (a1 := x) (a2 := y) hm (by omega) hv.2.1 h1 h2 hv.2.2.2.2.1 (FR_refl σ)
  exact ⟨v, σ', e, RV_out hv (FR_mono f (by decide) (by decide) (by decide) (by decide)) ho⟩
theorem u_pack (hm : m ≤ h.length) (hF : 65540 < F) (hv : RV σ fs gs ws n b a Y) : UM m h fs gs ws n b a Y (f_M_pack F m (mh m h σ)) := by
  obtain ⟨v, σ', e, _, f, ho⟩ := sm_pack (F := F) hm hF hv.2.1 hv.2.2.2.2.1
  exact ⟨v, σ', e, RV_out hv (FR_mono f (by decide) (by decide) (by decide) (by decide)) ho⟩
theorem u_boot {x : Int32} (hm : m ≤ h.length) (hF : 65540 < F) (hv : RV σ fs gs ws n b a Y) : UM m h fs gs ws (if x = 0 then n else 0) (if x = 0 then b else fun _ => 0) a Y (f_M_boot F m x (mh m h σ)) := by
  obtain ⟨v1, v2, v3, v4, v5, v6, v7, v8⟩ := hv
  obtain ⟨v, σ', e, _, f, e2, g1, g2⟩ := sm_boot (F := F) (a1 := x) hm hF v1 v5 v6 v7
  refine ⟨v, σ', e, ?_, RF_FR v2 f (by decide) (by decide), RG_FR v3 f (by decide) (by decide) (by decide), RW_FR v4 f (by decide) (by decide), OUo_FR v5 f (by decide) (by decide), g1, g2, RVc_FR v8 f (by decide) (by decide) (by decide)⟩
  have e1 : gA σ' 1 = gA σ 1 := f.2.2.1 1 (by decide)
  by_cases c : x = 0
  · rw [if_pos c] at e2
    rw [if_pos c, if_pos c]
    exact ⟨e2.trans v1.1, v1.2.1, by rw [e1]; exact v1.2.2.1, by rw [e1]; exact v1.2.2.2⟩
  · rw [if_neg c] at e2
    rw [if_neg c, if_neg c]
    refine ⟨e2, Nat.zero_le _, by rw [e1]; exact v1.2.2.1, ?_⟩
    funext y
    unfold cb
    rw [if_neg (Nat.not_lt_zero y)]
end MRV
