/-! the names of a link: what is known of them -/
def obT (fs : px_FS) (tq : List Nat) (t : Nat) : Nat × Nat × (Nat → Nat) × Bool := ((tq[t]?).bind (obAt fs)).getD (0, 0, fun _ => 0, false)
def tB (fs : px_FS) (tq : List Nat) (t : Nat) : Nat → Nat := (obT fs tq t).2.2.1
def AL (P : List Nat × px_NR → Prop) (xs : px_NL) : Prop := ∀ (i : Nat) (x : List Nat × px_NR), xs[i]? = some x → P x
theorem AL_ent {P : List Nat × px_NR → Prop} {w : List Nat} {xs : px_NL} (h : AL P xs) (hw : P (w, nr0)) : AL P (entL w xs) := by
  unfold entL
  split
  · exact h
  · intro i x hx
    by_cases c : i < xs.length
    · rw [List.getElem?_append_left c] at hx
      exact h i x hx
    · have hl := (List.getElem?_eq_some_iff.mp hx).1
      rw [List.length_append] at hl
      have hl : i < xs.length + 1 := hl
      rw [List.getElem?_append_right (by omega), show i - xs.length = 0 by omega] at hx
      have hx : (w, nr0) = x := Option.some.inj hx
      rw [← hx]; exact hw
theorem AL_setR {P : List Nat × px_NR → Prop} {i : Nat} {f : px_NR → px_NR} {xs : px_NL} (h : AL P xs) (hf : ∀ x, xs[i]? = some x → P (x.1, f x.2)) : AL P (setR xs i f) := by
  unfold setR
  cases e : xs[i]? with
  | none => exact h
  | some y =>
    intro j x hx
    have hx : (xs.set i (y.1, f y.2))[j]? = some x := hx
    by_cases c : i = j
    · rw [← c, List.getElem?_set_self (List.getElem?_eq_some_iff.mp e).1] at hx
      rw [← Option.some.inj hx]
      exact hf y e
    · rw [List.getElem?_set_ne c] at hx
      exact h j x hx
theorem AL_mono {P Q : List Nat × px_NR → Prop} {xs : px_NL} (h : AL P xs) (hq : ∀ x, P x → Q x) : AL Q xs := fun i x hx => hq x (h i x hx)
/-- where a name's definition comes from -/
def byP (T : Nat) (tb : Nat → Nat → Nat) (dr : Nat → Bool) (x : List Nat × px_NR) : Prop := match x.2.2.2.2.1 with
  | none => x.2.1 = 0 ∨ x.2.1 = 3 ∨ x.2.1 = 4
  | some q => q.1 < T ∧ (1 ≤ q.2 ∧ q.2 < oM (tb q.1)) ∧ yB (tb q.1) q.2 ≠ 0 ∧ sOf dr q.1 (tb q.1) q.2 = x.2.1 ∧ x.2.1 ≠ 0 ∧ yT (tb q.1) q.2 = x.1
theorem byP_of {T : Nat} {tb : Nat → Nat → Nat} {dr : Nat → Bool} {x y : List Nat × px_NR} (h : byP T tb dr x) (h1 : y.1 = x.1) (h2 : y.2.1 = x.2.1) (h3 : y.2.2.2.2.1 = x.2.2.2.2.1) : byP T tb dr y := by
  unfold byP at *
  rw [h1, h2, h3]
  exact h
theorem byP_nr {T : Nat} {tb : Nat → Nat → Nat} {dr : Nat → Bool} {w : List Nat} : byP T tb dr (w, nr0) := Or.inl rfl
theorem byP_cm {T k s z v : Nat} {tb : Nat → Nat → Nat} {dr : Nat → Bool} {w : List Nat} {r : px_NR} (hs : sOf dr T (tb T) k = s) (c1 : s ≠ 0) (h0 : byP (T + 1) tb dr (w, r)) (h1 : 1 ≤ k) (hk : k < oM (tb T)) (hb : yB (tb T) k ≠ 0) (hw : yT (tb T) k = w) : byP (T + 1) tb dr (w, cmS s T k z v r) := by
  unfold cmS
  by_cases c2 : r.1 < s
  · rw [if_pos c2]
    exact ⟨Nat.lt_succ_self T, ⟨h1, hk⟩, hb, hs, c1, hw⟩
  · rw [if_neg c2]
    by_cases c3 : s = 2 ∧ r.1 = 2
    · rw [if_pos c3]; exact byP_of h0 rfl rfl rfl
    · rw [if_neg c3]; exact h0
theorem byP_com {T k : Nat} {tb : Nat → Nat → Nat} {dr : Nat → Bool} {st : px_NL × List Nat} (h : AL (byP (T + 1) tb dr) st.1) (h1 : 1 ≤ k) (hk : k < oM (tb T)) (hb : yB (tb T) k ≠ 0) : AL (byP (T + 1) tb dr) (comS dr T (tb T) k st).2.1 := by
  have h2 := AL_ent (w := yT (tb T) k) h byP_nr
  obtain ⟨r, p1, p2⟩ := plc_at (w := yT (tb T) k) (xs := st.1)
  have hcm : sOf dr T (tb T) k ≠ 0 → ∀ r, byP (T + 1) tb dr (yT (tb T) k, r) → byP (T + 1) tb dr (yT (tb T) k, cmS (sOf dr T (tb T) k) T k (yZ (tb T) k) (yV (tb T) k) r) := fun c r h0 => byP_cm rfl c h0 h1 hk hb rfl
  unfold comS
  generalize cmS (sOf dr T (tb T) k) T k (yZ (tb T) k) (yV (tb T) k) = g at *
  generalize yT (tb T) k = w at *
  generalize sOf dr T (tb T) k = s at *
  generalize decide (yB (tb T) k = 1) = d at *
  generalize plc w (st.1.map Prod.fst) = i at *
  generalize entL w st.1 = ys at *
  by_cases c1 : s = 0
  · rw [if_pos c1]
    exact AL_setR (f := fun r => (r.1, (r.2.1 || d), r.2.2)) h2 (fun x hx => byP_of (x := x) (h2 _ x hx) rfl rfl rfl)
  · rw [if_neg c1]
    by_cases c2 : s = 3 ∧ (ys.getD i ([], nr0)).2.1 = 3
    · rw [if_pos c2]; exact h2
    · rw [if_neg c2]
      refine AL_setR h2 (fun x hx => ?_)
      rw [p1] at hx
      have hx := Option.some.inj hx
      rw [← hx]
      exact hcm c1 r (h2 _ _ p1)
theorem byP_tk {T k : Nat} {tb : Nat → Nat → Nat} {dr : Nat → Bool} {s : px_TS} (h : AL (byP (T + 1) tb dr) s.2.1) (h1 : 1 ≤ k) (hk : k < oM (tb T)) : AL (byP (T + 1) tb dr) (tk1 dr T (tb T) k s).2.1 := by
  unfold tk1
  by_cases c1 : yB (tb T) k = 0
  · rw [if_pos c1]; exact h
  · rw [if_neg c1]
    have hc := byP_com (st := (s.2.1, s.2.2.1)) h h1 hk c1
    have he := AL_ent (w := yT (tb T) k) h byP_nr
    generalize comS dr T (tb T) k (s.2.1, s.2.2.1) = R at *
    split
    · exact he
    · split
      · exact hc
      · exact hc
/-- the texts -/
def txs (s : px_TS) : List (List Nat) := s.2.1.map Prod.fst
theorem entL_fst {w : List Nat} {xs : px_NL} : (entL w xs).map Prod.fst = ent w (xs.map Prod.fst) := by
  unfold entL ent
  split
  · rfl
  · rw [List.map_append]; rfl
theorem idx_iff {w : List Nat} {l : List (List Nat)} : (idx w 0 l).isSome = true ↔ w ∈ l := by
  constructor
  · intro h
    obtain ⟨i, hi⟩ := Option.isSome_iff_exists.mp h
    have := idx_some hi
    exact List.mem_of_getElem? this
  · intro h
    obtain ⟨i, hi⟩ := List.getElem?_of_mem h
    exact idx_mem hi
theorem ent_mem {w v : List Nat} {l : List (List Nat)} : v ∈ ent w l ↔ v = w ∨ v ∈ l := by
  unfold ent
  split
  · rename_i c
    have := idx_iff.mp c
    exact ⟨Or.inr, fun q => q.elim (fun q => q ▸ this) id⟩
  · rw [List.mem_append, List.mem_singleton]
    exact Or.comm
theorem ent_nd {w : List Nat} {l : List (List Nat)} (h : l.Nodup) : (ent w l).Nodup := by
  unfold ent
  split
  · exact h
  · rename_i c
    rw [List.nodup_append]
    refine ⟨h, List.nodup_cons.mpr ⟨List.not_mem_nil, List.nodup_nil⟩, fun x hx y hy e => c (idx_iff.mpr ?_)⟩
    rw [List.mem_singleton.mp hy] at e
    exact e ▸ hx
theorem comS_fst {dr : Nat → Bool} {t : Nat} {b : Nat → Nat} {k : Nat} {st : px_NL × List Nat} : (comS dr t b k st).2.1.map Prod.fst = ent (yT b k) (st.1.map Prod.fst) := by
  unfold comS
  split
  · dsimp only; rw [setR_fst, entL_fst]
  · split
    · exact entL_fst
    · dsimp only; rw [setR_fst, entL_fst]
theorem tk1_fst {dr : Nat → Bool} {t : Nat} {b : Nat → Nat} {k : Nat} {s : px_TS} : txs (tk1 dr t b k s) = if yB b k = 0 then txs s else ent (yT b k) (txs s) := by
  unfold tk1 txs
  by_cases c1 : yB b k = 0
  · rw [if_pos c1, if_pos c1]
  · rw [if_neg c1, if_neg c1]
    have hc := comS_fst (dr := dr) (t := t) (b := b) (k := k) (st := (s.2.1, s.2.2.1))
    generalize comS dr t b k (s.2.1, s.2.2.1) = R at *
    split
    · exact entL_fst
    · split
      · exact hc
      · exact hc
theorem itr_hit {α β : Type} {g : Nat → α → α} {M : β → α → Prop} {v : Nat → β} {Q : Nat → Prop} {a e : Nat} (hm : ∀ i s w, a ≤ i → i < e → M w s → M w (g i s)) (hh : ∀ i s, a ≤ i → i < e → Q i → M (v i) (g i s)) : ∀ (c k : Nat) (s : α), a ≤ k → k + c ≤ e → (∀ w, M w s → M w (itr g k c s)) ∧ ∀ i, k ≤ i → i < k + c → Q i → M (v i) (itr g k c s) := by
  intro c
  induction c with
  | zero => intro k s _ _; exact ⟨fun w h => h, fun i h1 h2 => by omega⟩
  | succ c ih =>
    intro k s h1 h2
    rw [itr_s]
    have i1 := ih (k + 1) (g k s) (by omega) (by omega)
    refine ⟨fun w hw => i1.1 w (hm k s w h1 (by omega) hw), fun i h3 h4 hq => ?_⟩
    by_cases c1 : i = k
    · rw [c1] at hq ⊢
      exact i1.1 _ (hh k s h1 (by omega) hq)
    · exact i1.2 i (by omega) (by omega) hq
/-- the order of definitions names names that are there -/
theorem tk1_od {dr : Nat → Bool} {t : Nat} {b : Nat → Nat} {k : Nat} {s : px_TS} (h : ∀ d, d ∈ s.2.2.1 → d < s.2.1.length) : s.2.1.length ≤ (tk1 dr t b k s).2.1.length ∧ ∀ d, d ∈ (tk1 dr t b k s).2.2.1 → d < (tk1 dr t b k s).2.1.length := by
  have el : s.2.1.length ≤ (entL (yT b k) s.2.1).length := by
    unfold entL
    split
    · exact Nat.le_refl _
    · rw [List.length_append]; omega
  obtain ⟨r, p1, p2⟩ := plc_at (w := yT b k) (xs := s.2.1)
  have hc : (comS dr t b k (s.2.1, s.2.2.1)).2.1.length = (entL (yT b k) s.2.1).length ∧ ∀ d, d ∈ (comS dr t b k (s.2.1, s.2.2.1)).2.2 → d < (entL (yT b k) s.2.1).length := by
    have ho : ∀ d, d ∈ s.2.2.1 → d < (entL (yT b k) s.2.1).length := fun d hd => Nat.lt_of_lt_of_le (h d hd) el
    unfold comS
    generalize cmS (sOf dr t b k) t k (yZ b k) (yV b k) = g at *
    generalize yT b k = w at *
    generalize sOf dr t b k = s0 at *
    dsimp only
    generalize plc w (s.2.1.map Prod.fst) = i at *
    generalize entL w s.2.1 = ys at *
    split
    · dsimp only; exact ⟨setR_len, ho⟩
    · split
      · exact ⟨rfl, ho⟩
      · refine ⟨by dsimp only; exact setR_len, fun d hd => ?_⟩
        dsimp only at hd
        split at hd
        · rcases List.mem_append.mp hd with hd | hd
          · exact ho d hd
          · rw [List.mem_singleton.mp hd]; exact p2
        · exact ho d hd
  unfold tk1
  by_cases c1 : yB b k = 0
  · rw [if_pos c1]; exact ⟨Nat.le_refl _, h⟩
  · rw [if_neg c1]
    generalize comS dr t b k (s.2.1, s.2.2.1) = R at *
    split
    · exact ⟨el, fun d hd => Nat.lt_of_lt_of_le (h d hd) el⟩
    · split
      · dsimp only; rw [hc.1]; exact ⟨el, hc.2⟩
      · dsimp only; rw [hc.1]; exact ⟨el, hc.2⟩
/-- dropped sections are those of the object itself -/
theorem mkD_out {t : Nat} {b : Nat → Nat} {i : Nat} (hg : ∀ j, 1 ≤ j → j < oZ b i / 4 → gN b i j < 24) {x : Nat} (hx : x < 24 * t ∨ 24 * t + 24 ≤ x) : ∀ (c j : Nat) (dr : Nat → Bool), 1 ≤ j → j + c ≤ oZ b i / 4 → mkD t b i j c dr x = dr x := by
  intro c
  induction c with
  | zero => intro j dr _ _; rfl
  | succ c ih =>
    intro j dr h1 h2
    have := hg j h1 (by omega)
    unfold mkD
    rw [ih (j + 1) _ (by omega) (by omega)]
    show (if x = 24 * t + gN b i j then true else dr x) = dr x
    rw [if_neg (by omega)]
theorem z_help {Z : Nat} (h1 : 1 ≤ Z) (h4 : Z % 4 = 0) : 1 + (Z / 4 - 1) ≤ Z / 4 := by omega
theorem dg1_cs {t : Nat} {b : Nat → Nat} {i : Nat} {s : (Nat → Bool) × Nat × List (List Nat)} : (oT b i = 17 ∧ ∃ R, R = mkD t b i 1 (oZ b i / 4 - 1) s.1 ∧ dg1 t b i s = (R, s.2.1 + 1, s.2.2)) ∨ (dg1 t b i s).1 = s.1 := by
  by_cases c1 : oT b i = 17 ∧ gN b i 0 = 1
  · by_cases c3 : (idx (yT b (oI b i)) 0 s.2.2).isSome = true
    · refine Or.inl ⟨c1.1, _, rfl, ?_⟩
      unfold dg1
      rw [if_pos c1, if_pos c3]
    · refine Or.inr ?_
      have hd1 : dg1 t b i s = (s.1, s.2.1, s.2.2 ++ [yT b (oI b i)]) := by unfold dg1; rw [if_pos c1, if_neg c3]
      generalize yT b (oI b i) = Y at hd1
      rw [hd1]
  · refine Or.inr ?_
    have hd1 : dg1 t b i s = s := by unfold dg1; rw [if_neg c1]
    rw [hd1]
theorem dg1_out {t : Nat} {b : Nat → Nat} {i n : Nat} (hg : GP b n) (h1 : 1 ≤ i) (hi : i < oS b) {x : Nat} (hx : x < 24 * t ∨ 24 * t + 24 ≤ x) (s : (Nat → Bool) × Nat × List (List Nat)) : (dg1 t b i s).1 x = s.1 x := by
  rcases dg1_cs (t := t) (b := b) (i := i) (s := s) with ⟨c1, R, hR, e⟩ | e
  · obtain ⟨⟨z1, z2, z3, z4⟩, z5, z6⟩ := hg i h1 hi c1
    have e2 := mkD_out z6 hx (oZ b i / 4 - 1) 1 s.1 (Nat.le_refl _) (z_help z1 z2)
    rw [← hR] at e2
    rw [e]
    exact e2
  · rw [e]
theorem dgs_out {t : Nat} {b : Nat → Nat} {n : Nat} (hg : GP b n) (hS : 1 ≤ oS b) {x : Nat} (hx : x < 24 * t ∨ 24 * t + 24 ≤ x) (s : (Nat → Bool) × Nat × List (List Nat)) : (itr (dg1 t b) 1 (oS b - 1) s).1 x = s.1 x :=
  itr_inv (P := fun r : (Nat → Bool) × Nat × List (List Nat) => r.1 x = s.1 x) (a := 1) (e := oS b) (fun i r h1 h2 hr => (dg1_out hg h1 h2 hx r).trans hr) (oS b - 1) 1 s (Nat.le_refl _) (by omega) rfl
