/-! what the latest link left, as the class has it -/
/-- taken (and the file's size, the segments that are there), for whom; sections (file, member, number, group, size, address); names with their addresses; definitions in order -/
abbrev px_Y : Type := ((Nat → Bool) × Nat × (Nat → Bool)) × (Nat → Option (List Nat)) × List (Nat × Nat × Nat × Nat × Nat × Nat) × List (List Nat × Int64) × List Nat
def CXm (τ : px_TT) (fs : px_FS) (tk : Nat → Bool) (ca : Nat → Option (List Nat)) : Prop := ∀ q, q < 64 → fI τ (10 + 2 * q) 15 = bI (tk q) ∧ (ca q = none → fI τ (10 + 2 * q) 16 = nI 0) ∧ (∀ w, ca q = some w → tk q = true ∧ ∃ o n b j, obAt fs q = some (o, n, b, false) ∧ 1 ≤ j ∧ j < oM b ∧ yB b j ≠ 0 ∧ fI τ (10 + 2 * q) 16 = nI j ∧ yT b j = w) ∧ (8 * fs.length ≤ q → tk q = false)
def CXp (τ : px_TT) (ps : List (Nat × Nat × Nat × Nat × Nat × Nat)) : Prop := fI τ 1700 11 = nI ps.length ∧ ps.length ≤ 1536 ∧ ∀ (i : Nat) (p : Nat × Nat × Nat × Nat × Nat × Nat), ps[i]? = some p → (p.1 < 10 ∧ p.2.1 < 10 ∧ p.2.2.1 < 24 ∧ p.2.2.2.1 < 10 ∧ p.2.2.2.2.1 ≤ 16384) ∧ ∃ x, x < 1536 ∧ eN τ 1701 i = some (152 + x) ∧ fI τ (152 + x) 1 = nI p.1 ∧ fI τ (152 + x) 2 = nI p.2.1 ∧ fI τ (152 + x) 3 = nI p.2.2.1 ∧ fI τ (152 + x) 4 = nI p.2.2.2.1 ∧ fI τ (152 + x) 5 = nI p.2.2.2.2.1 ∧ fJ τ (152 + x) 11 = lN p.2.2.2.2.2
def CXn (sk : Nat → Nat × Nat × Nat) (L : Nat) (τ : px_TT) (ns : List (List Nat × Int64)) (od : List Nat) : Prop := (isNs sk L τ 148 149 4128 (ns.map Prod.fst) (pN τ 149) ∧ ∀ w, w ∈ ns.map Prod.fst → nT w) ∧ (∀ (i : Nat) (x : List Nat × Int64), ns[i]? = some x → fJ τ (pN τ 149 i) 14 = x.2) ∧ fI τ 147 15 = nI od.length ∧ ∀ (i d : Nat), od[i]? = some d → d < ns.length ∧ eN τ 1693 i = some (pN τ 149 d)
def CXo (sk : Nat → Nat × Nat × Nat) (L : Nat) (τ : px_TT) (fs : px_FS) (a : Int32) (Y : px_Y) : Prop := CXm τ fs Y.1.1 Y.2.1 ∧ (a = 0 → CXp τ Y.2.2.1 ∧ CXn sk L τ Y.2.2.2.1 Y.2.2.2.2)
def CX (sk : Nat → Nat × Nat × Nat) (L : Nat) (τ : px_TT) (fs : px_FS) (a : Int32) (Y : px_Y) : Prop := CXo sk L τ fs a Y ∧ (a = 0 → CKZ τ Y.1.2.1 Y.1.2.2)
/-- what of that has not changed: order, sections, names -/
def frWx (τ τ' : px_TT) : Prop := (fI τ' 1700 11 = fI τ 1700 11 ∧ eN τ' 1701 = eN τ 1701 ∧ ∀ x, x < 1536 → (∀ k, k ≤ 5 → fI τ' (152 + x) k = fI τ (152 + x) k) ∧ fJ τ' (152 + x) 11 = fJ τ (152 + x) 11) ∧ (eN τ' 149 = eN τ 149 ∧ fN τ' 148 0 = fN τ 148 0 ∧ fI τ' 148 2 = fI τ 148 2 ∧ ∀ i p, eN τ 149 i = some p → fI τ' p 3 = fI τ p 3 ∧ ∀ k, fJ τ' p k = fJ τ p k) ∧ fI τ' 147 15 = fI τ 147 15 ∧ eN τ' 1693 = eN τ 1693 ∧ fI τ' 1711 1 = fI τ 1711 1 ∧ eI τ' 1703 = eI τ 1703
/-- the members' marks -/
def frV (τ τ' : px_TT) : Prop := ∀ q, q < 64 → fI τ' (10 + 2 * q) 15 = fI τ (10 + 2 * q) 15 ∧ fI τ' (10 + 2 * q) 16 = fI τ (10 + 2 * q) 16
/-- the files' marks when the n-th file and those behind it are gone -/
def dropY (n : Nat) (Y : px_Y) : px_Y := ((fun q => decide (q < 8 * n) && Y.1.1 q, Y.1.2), fun q => if q < 8 * n then Y.2.1 q else none, Y.2.2)
theorem obAt_lt {fs : px_FS} {q : Nat} {y : Nat × Nat × (Nat → Nat) × Bool} (h : obAt fs q = some y) : q / 8 < fs.length := by
  rcases Nat.lt_or_ge (q / 8) fs.length with e | e
  · exact e
  · exfalso
    unfold obAt at h
    rw [List.getElem?_eq_none e] at h
    cases h
theorem obAt_app {fs : px_FS} {x : Nat × (Nat → Nat)} {q : Nat} (h : q / 8 < fs.length) : obAt (fs ++ [x]) q = obAt fs q := by
  unfold obAt
  rw [List.getElem?_append_left h]
section CXS
variable {sk sk' : Nat → Nat × Nat × Nat} {L L' : Nat} {own : Nat → Nat × Nat} {τ τ' τ'' : px_TT} {fs : px_FS} {gs : List (List Nat × Int64)} {ws : List (List Nat)} {n : Nat} {b : Nat → Nat} {a : Int32} {Y : px_Y}
theorem frWx_refl : frWx τ τ := ⟨⟨rfl, rfl, fun _ _ => ⟨fun _ _ => rfl, rfl⟩⟩, ⟨rfl, rfl, rfl, fun _ _ _ => ⟨rfl, fun _ => rfl⟩⟩, rfl, rfl, rfl, rfl⟩
theorem frV_refl : frV τ τ := fun _ _ => ⟨rfl, rfl⟩
theorem frWx_trans (h : frWx τ τ') (g : frWx τ' τ'') : frWx τ τ'' := by
  obtain ⟨⟨a1, a2, a3⟩, ⟨a4, a5, a6, a7⟩, a8, a9, a10, a11⟩ := h
  obtain ⟨⟨b1, b2, b3⟩, ⟨b4, b5, b6, b7⟩, b8, b9, b10, b11⟩ := g
  exact ⟨⟨b1.trans a1, b2.trans a2, fun x hx => ⟨fun k hk => ((b3 x hx).1 k hk).trans ((a3 x hx).1 k hk), (b3 x hx).2.trans (a3 x hx).2⟩⟩, ⟨b4.trans a4, b5.trans a5, b6.trans a6, fun i p hp => ⟨(b7 i p (by rw [a4]; exact hp)).1.trans (a7 i p hp).1, fun k => ((b7 i p (by rw [a4]; exact hp)).2 k).trans ((a7 i p hp).2 k)⟩⟩, b8.trans a8, b9.trans a9, b10.trans a10, b11.trans a11⟩
theorem frV_trans (h : frV τ τ') (g : frV τ' τ'') : frV τ τ'' := fun q hq => ⟨(g q hq).1.trans (h q hq).1, (g q hq).2.trans (h q hq).2⟩
theorem frWx_g (hn : NP sk L τ own) (e : ∀ A, eN τ' A = eN τ A) (hI : ∀ a k, 147 ≤ a → fI τ' a k = fI τ a k) (hJ : ∀ a k, 147 ≤ a → fJ τ' a k = fJ τ a k) (hN : ∀ a k, fN τ' a k = fN τ a k) (hE : eI τ' 1703 = eI τ 1703) : frWx τ τ' := ⟨⟨hI 1700 11 (by decide), e 1701, fun x _ => ⟨fun k _ => hI _ k (by omega), hJ _ 11 (by omega)⟩⟩, ⟨e 149, hN 148 0, hI 148 2 (by decide), fun i p hp => by
  have h1 := (hn 149 i p (Or.inr (Or.inr rfl)) hp).1
  exact ⟨hI p 3 (by omega), fun k => hJ p k (by omega)⟩⟩, hI 147 15 (by decide), e 1693, hI 1711 1 (by decide), hE⟩
theorem frWx_Z (hn : NP sk L τ own) (f : frZ τ τ') (h11 : fI τ' 1711 1 = fI τ 1711 1) : frWx τ τ' := by
  obtain ⟨f1, f2, f3, f4, f5, f6⟩ := f
  refine ⟨⟨f1 1700 11 (Zc_no (by omega)) (by omega) (by omega) (by omega) (by omega), f6 1701 (by decide), fun x hx => ⟨fun k hk => f1 _ k (Zc_no (by omega)) (by omega) (by omega) (by omega) (by omega), f2 _ 11 (Zc_no (by omega)) (by omega)⟩⟩, ⟨f6 149 (by decide), f3 148 0 (by omega), f1 148 2 (Zc_no (by omega)) (by omega) (by omega) (by omega) (by omega), fun i p hp => ?_⟩, f1 147 15 (Zc_no (by omega)) (by omega) (by omega) (by omega) (by omega), f6 1693 (by decide), h11, f4 1703 (Zc_no (by omega))⟩
  have h1 := (hn 149 i p (Or.inr (Or.inr rfl)) hp).1
  exact ⟨f1 p 3 (Zc_no (by omega)) (by omega) (by omega) (by omega) (by omega), fun k => f2 p k (Zc_no (by omega)) (by omega)⟩
theorem frV_Z (f : frZ τ τ') : frV τ τ' := fun q hq => ⟨f.1 _ 15 (Zc_no (by omega)) (by omega) (by omega) (by omega) (by omega), f.1 _ 16 (Zc_no (by omega)) (by omega) (by omega) (by omega) (by omega)⟩
/-- a name told anew -/
theorem frWx_U {own' : Nat → Nat × Nat} {p A i : Nat} (hn : NP sk L τ own) (hn' : NP sk' L' τ' own') (hA : A = 141 ∨ A = 144) (hp : 1815 ≤ p) (ep : eN τ' A i = some p) (f : frU p τ τ') : frWx τ τ' := by
  obtain ⟨f1, f2, f3, f4, f5, f6⟩ := f
  refine ⟨⟨f1 1700 11 (by omega) (by omega) (by omega) (by omega) (by omega), f6 1701 (by decide) (by decide), fun x hx => ⟨fun k hk => f1 _ k (by omega) (by omega) (by omega) (by omega) (by omega), f2 _ 11 (by omega) (by omega)⟩⟩, ⟨f6 149 (by decide) (by decide), f3 148 0 (by omega), f1 148 2 (by omega) (by omega) (by omega) (by omega) (by omega), fun j q hq => ?_⟩, f1 147 15 (by omega) (by omega) (by omega) (by omega) (by omega), f6 1693 (by decide) (by decide), f1 1711 1 (by omega) (by omega) (by omega) (by omega) (by omega), f4 1703⟩
  have hq1 := (hn 149 j q (Or.inr (Or.inr rfl)) hq).1
  have hq' : eN τ' 149 j = some q := by rw [f6 149 (by decide) (by decide)]; exact hq
  have hne : q ≠ p := NP_ne hn' (Or.inr (Or.inr rfl)) (by omega) hq' ep (by omega)
  exact ⟨f1 q 3 hne (by omega) (by omega) (by omega) (by omega), fun k => f2 q k hne (by omega)⟩
theorem CXp_W {ps : List (Nat × Nat × Nat × Nat × Nat × Nat)} (h : CXp τ ps) (f : frWx τ τ') : CXp τ' ps := by
  refine ⟨f.1.1.trans h.1, h.2.1, fun i p hp => ?_⟩
  obtain ⟨hb, x, x1, x2, x3, x4, x5, x6, x7, x8⟩ := h.2.2 i p hp
  have w := f.1.2.2 x x1
  exact ⟨hb, x, x1, by rw [f.1.2.1]; exact x2, (w.1 1 (by decide)).trans x3, (w.1 2 (by decide)).trans x4, (w.1 3 (by decide)).trans x5, (w.1 4 (by decide)).trans x6, (w.1 5 (by decide)).trans x7, w.2.trans x8⟩
theorem pN_W (f : frWx τ τ') : pN τ' 149 = pN τ 149 := by
  funext i
  unfold pN
  rw [f.2.1.1]
theorem CXn_W {ns : List (List Nat × Int64)} {od : List Nat} (h : CXn sk L τ ns od) (e : EX sk L sk' L') (f : frWx τ τ') : CXn sk' L' τ' ns od := by
  obtain ⟨⟨⟨s1, s2, s3, s4, s5, s6, s7⟩, hnt⟩, h2, h3, h4⟩ := h
  have hp := pN_W f
  unfold CXn
  rw [hp]
  refine ⟨⟨⟨ob_ex s1 e, f.2.1.2.1.trans s2, ar_ex s3 e, s4, s5, f.2.1.2.2.1.trans s6, fun i w hw => ?_⟩, hnt⟩, fun i x hx => ?_, f.2.2.1.trans h3, fun i d hd => ⟨(h4 i d hd).1, by rw [f.2.2.2.1]; exact (h4 i d hd).2⟩⟩
  · obtain ⟨w1', w2', w3', w4'⟩ := s7 i w hw
    have g := f.2.1.2.2.2 i _ w2'
    refine ⟨w1', by rw [f.2.1.1]; exact w2', ob_ex w3' e, (g.2 0).trans w4'.1, (g.2 1).trans w4'.2.1, (g.2 2).trans w4'.2.2.1, g.1.trans w4'.2.2.2⟩
  · have hw : (ns.map Prod.fst)[i]? = some x.1 := by rw [List.getElem?_map, hx]; rfl
    obtain ⟨_, w2', _⟩ := s7 i _ hw
    exact ((f.2.1.2.2.2 i _ w2').2 14).trans (h2 i x hx)
theorem CXm_V {tk : Nat → Bool} {ca : Nat → Option (List Nat)} (h : CXm τ fs tk ca) (f : frV τ τ') : CXm τ' fs tk ca := fun q hq => by
  obtain ⟨h1, h2, h3, h4⟩ := h q hq
  refine ⟨(f q hq).1.trans h1, fun e => (f q hq).2.trans (h2 e), fun w e => ?_, h4⟩
  obtain ⟨t, o, n, b, j, x1, x2, x3, x4, x5, x6⟩ := h3 w e
  exact ⟨t, o, n, b, j, x1, x2, x3, x4, (f q hq).2.trans x5, x6⟩
theorem CKZ_W {fe : Nat} {th : Nat → Bool} (h : CKZ τ fe th) (f : frWx τ τ') : CKZ τ' fe th := ⟨h.1, f.2.2.2.2.1.trans h.2.1, fun j hj => by rw [f.2.2.2.2.2]; exact h.2.2 j hj⟩
theorem CX_W (h : CX sk L τ fs a Y) (e : EX sk L sk' L') (f : frWx τ τ') (g : frV τ τ') : CX sk' L' τ' fs a Y := ⟨⟨CXm_V h.1.1 g, fun h0 => ⟨CXp_W (h.1.2 h0).1 f, CXn_W (h.1.2 h0).2 e f⟩⟩, fun h0 => CKZ_W (h.2 h0) f⟩
theorem CX_z (h : CX sk L τ fs a Y) : ∀ q, OBq q → isZ (fI τ q 15) := by
  rintro q ⟨i, hi, rfl⟩
  exact ⟨_, (h.1.1 i hi).1⟩
theorem CX_Z (h : CX sk L τ fs a Y) (hn : NP sk L τ own) (f : frZ τ τ') (h11 : fI τ' 1711 1 = fI τ 1711 1) : CX sk L τ' fs a Y := CX_W h EX_refl (frWx_Z hn f h11) (frV_Z f)
/-- files were added, or not: the marks stand as they stood -/
theorem frV_D (h : CX sk L τ fs a Y) (f : frD fs.length τ τ') : frV τ τ' := fun q hq => by
  obtain ⟨h1, h2, h3, h4⟩ := h.1.1 q hq
  by_cases c : q < 8 * fs.length
  · exact ⟨f.1 _ 15 (by omega) (by omega) (by omega) (by omega), f.1 _ 16 (by omega) (by omega) (by omega) (by omega)⟩
  · have t0 := h4 (by omega)
    have c0 : Y.2.1 q = none := by
      cases e : Y.2.1 q with
      | none => rfl
      | some w => rw [(h3 w e).1] at t0; cases t0
    have e15 : fI τ (10 + 2 * q) 15 = nI 0 := by rw [h1, t0]; rfl
    have e16 := h2 c0
    obtain ⟨z1, z2⟩ := f.2.2.2.2.2.2 (10 + 2 * q) (by omega)
    refine ⟨?_, ?_⟩
    · rcases z1 with z | z
      · exact z
      · rw [z, e15]
    · rcases z2 with z | z
      · exact z
      · rw [z, e16]
theorem CX_add {x : Nat × (Nat → Nat)} (h : CX sk L τ fs a Y) : CX sk L τ (fs ++ [x]) a Y := by
  refine ⟨⟨fun q hq => ?_, h.1.2⟩, h.2⟩
  obtain ⟨h1, h2, h3, h4⟩ := h.1.1 q hq
  refine ⟨h1, h2, fun w e => ?_, fun c => h4 (by rw [List.length_append] at c; omega)⟩
  obtain ⟨t, o, n, b, j, x1, x2⟩ := h3 w e
  exact ⟨t, o, n, b, j, (obAt_app (obAt_lt x1)).trans x1, x2⟩
theorem CX_drop {x : Nat × (Nat → Nat)} (h : CX sk L τ (fs ++ [x]) a Y) (f : frD fs.length τ τ') (w : frWx τ τ') (hc : ∀ j, j < 8 → clF τ' (10 + 2 * (8 * fs.length + j))) : CX sk L τ' fs a (dropY fs.length Y) := by
  refine ⟨⟨fun q hq => ?_, fun h0 => ⟨CXp_W (h.1.2 h0).1 w, CXn_W (h.1.2 h0).2 EX_refl w⟩⟩, fun h0 => CKZ_W (h.2 h0) w⟩
  obtain ⟨h1, h2, h3, h4⟩ := h.1.1 q hq
  rw [List.length_append, List.length_singleton] at h4
  show fI τ' (10 + 2 * q) 15 = bI (decide (q < 8 * fs.length) && Y.1.1 q) ∧ ((if q < 8 * fs.length then Y.2.1 q else none) = none → fI τ' (10 + 2 * q) 16 = nI 0) ∧ (∀ w, (if q < 8 * fs.length then Y.2.1 q else none) = some w → (decide (q < 8 * fs.length) && Y.1.1 q) = true ∧ ∃ o n b j, obAt fs q = some (o, n, b, false) ∧ 1 ≤ j ∧ j < oM b ∧ yB b j ≠ 0 ∧ fI τ' (10 + 2 * q) 16 = nI j ∧ yT b j = w) ∧ (8 * fs.length ≤ q → (decide (q < 8 * fs.length) && Y.1.1 q) = false)
  by_cases c : q < 8 * fs.length
  · have e15 : fI τ' (10 + 2 * q) 15 = fI τ (10 + 2 * q) 15 := f.1 _ 15 (by omega) (by omega) (by omega) (by omega)
    have e16 : fI τ' (10 + 2 * q) 16 = fI τ (10 + 2 * q) 16 := f.1 _ 16 (by omega) (by omega) (by omega) (by omega)
    rw [decide_eq_true c, Bool.true_and, if_pos c]
    refine ⟨e15.trans h1, fun e => e16.trans (h2 e), fun w e => ?_, fun d => by omega⟩
    obtain ⟨t, o, n, b, j, x1, x2, x3, x4, x5, x6⟩ := h3 w e
    exact ⟨t, o, n, b, j, (obAt_app (by omega)).symm.trans x1, x2, x3, x4, e16.trans x5, x6⟩
  · rw [decide_eq_false c, Bool.false_and, if_neg c]
    have hz : fI τ' (10 + 2 * q) 15 = nI 0 ∧ fI τ' (10 + 2 * q) 16 = nI 0 := by
      by_cases d : q < 8 * fs.length + 8
      · have w := (hc (q - 8 * fs.length) (by omega)).2
        rw [show 8 * fs.length + (q - 8 * fs.length) = q by omega] at w
        exact w
      · have t0 := h4 (by omega)
        have c0 : Y.2.1 q = none := by
          cases e : Y.2.1 q with
          | none => rfl
          | some w => rw [(h3 w e).1] at t0; cases t0
        have e15 : fI τ (10 + 2 * q) 15 = nI 0 := by rw [h1, t0]; rfl
        have e16 := h2 c0
        obtain ⟨z1, z2⟩ := f.2.2.2.2.2.2 (10 + 2 * q) (by omega)
        refine ⟨?_, ?_⟩
        · rcases z1 with z | z
          · exact z.trans e15
          · exact z
        · rcases z2 with z | z
          · exact z.trans e16
          · exact z
    exact ⟨hz.1, fun _ => hz.2, fun w e => (by cases e), fun _ => rfl⟩
end CXS
