section
/-! what the latest link left, as the class has it -/
/-- taken (and the file's size, the segments that are there), for whom; sections (file, member, number, group, size, address); names with their addresses; definitions in order -/
abbrev px_Y : Type := ((Nat → Bool) × Nat × (Nat → Bool)) × (Nat → Option (List Nat)) × List (Nat × Nat × Nat × Nat × Nat × Nat) × List (List Nat × Int64) × List Nat
def CXm (τ : px_TT) (fs : px_FS) (tk : Nat → Bool) (ca : Nat → Option (List Nat)) : Prop := ∀ q, q < 64 → fI τ (10 + 2 * q) 15 = bI (tk q) ∧ (ca q = none → fI τ (10 + 2 * q) 16 = nI 0) ∧ (∀ w, ca q = some w → tk q = true ∧ ∃ o n b j, obAt fs q = some (o, n, b, false) ∧ 1 ≤ j ∧ j < oM b ∧ yB b j ≠ 0 ∧ fI τ (10 + 2 * q) 16 = nI j ∧ yT b j = w) ∧ (8 * fs.length ≤ q → tk q = false)
def CXp (τ : px_TT) (ps : List (Nat × Nat × Nat × Nat × Nat × Nat)) : Prop := fI τ 1700 11 = nI ps.length ∧ ps.length ≤ 1536 ∧ ∀ (i : Nat) (p : Nat × Nat × Nat × Nat × Nat × Nat), ps[i]? = some p → (p.1 < 10 ∧ p.2.1 < 10 ∧ p.2.2.1 < 24 ∧ p.2.2.2.1 < 10 ∧ p.2.2.2.2.1 ≤ 16384) ∧ ∃ x, x < 1536 ∧ eN τ 1701 i = some (152 + x) ∧ fI τ (152 + x) 1 = nI p.1 ∧ fI τ (152 + x) 2 = nI p.2.1 ∧ fI τ (152 + x) 3 = nI p.2.2.1 ∧ fI τ (152 + x) 4 = nI p.2.2.2.1 ∧ fI τ (152 + x) 5 = nI p.2.2.2.2.1 ∧ fJ τ (152 + x) 11 = lN p.2.2.2.2.2
def CXn (sk : Nat → Nat × Nat × Nat) (L : Nat) (τ : px_TT) (ns : List (List Nat × Int64)) (od : List Nat) : Prop := (isNs sk L τ 148 149 4128 (ns.map Prod.fst) (pN τ 149) ∧ ∀ w, w ∈ ns.map Prod.fst → nT w) ∧ (∀ (i : Nat) (x : List Nat × Int64), ns[i]? = some x → fJ τ (pN τ 149 i) 14 = x.2) ∧ fI τ 147 15 = nI od.length ∧ ∀ (i d : Nat), od[i]? = some d → d < ns.length ∧ eN τ 1693 i = some (pN τ 149 d)
def CXo (sk : Nat → Nat × Nat × Nat) (L : Nat) (τ : px_TT) (fs : px_FS) (a : Int32) (Y : px_Y) : Prop := CXm τ fs Y.1.1 Y.2.1 ∧ (a = 0 → CXp τ Y.2.2.1 ∧ CXn sk L τ Y.2.2.2.1 Y.2.2.2.2)
def CX (sk : Nat → Nat × Nat × Nat) (L : Nat) (τ : px_TT) (fs : px_FS) (a : Int32) (Y : px_Y) : Prop := CXo sk L τ fs a Y ∧ (a = 0 → CKZ τ Y.1.2.1 Y.1.2.2)
/-- what of that has not changed: order, sections, names -/
def frWx (τ τ' : px_TT) : Prop := (fI τ' 1700 11 = fI τ 1700 11 ∧ eN τ' 1701 = eN τ 1701 ∧ ∀ x, x < 1536 → (∀ k, k ≤ 5 → fI τ' (152 + x) k = fI τ (152 + x) k) ∧ fJ τ' (152 + x) 11 = fJ τ (152 + x) 11) ∧ (eN τ' 149 = eN τ 149 ∧ fN τ' 148 0 = fN τ 148 0 ∧ fI τ' 148 2 = fI τ 148 2 ∧ ∀ i p, eN τ 149 i = some p → fI τ' p 3 = fI τ p 3 ∧ ∀ k, fJ τ' p k = fJ τ p k) ∧ fI τ' 147 15 = fI τ 147 15 ∧ eN τ' 1693 = eN τ 1693 ∧ fI τ' 1711 1 = fI τ 1711 1 ∧ eI τ' 1703 = eI τ 1703
/-- the members' marks -/
def frV (τ τ' : px_TT) : Prop := ∀ q, q < 64 → fI τ' (10 + 2 * q) 15 = fI τ (10 + 2 * q) 15 ∧ fI τ' (10 + 2 * q) 16 = fI τ (10 + 2 * q) 16
/-- the files' marks when the n-th file and those behind it are gone -/
def dropY (n : Nat) (Y : px_Y) : px_Y := ((fun q => decide (q < 8 * n) && Y.1.1 q, Y.1.2), fun q => if q < 8 * n then Y.2.1 q else none, Y.2.2)
theorem obAt_lt {fs : px_FS} {q : Nat} {y : Nat × Nat × (Nat → Nat) × Bool} (h : obAt fs q = some y) : q / 8 < fs.length := by
  rcases Nat.lt_or_ge (q / 8) fs.length with e | e
  · exact e
  · exfalso
    unfold obAt at h
    rw [List.getElem?_eq_none e] at h
    cases h
theorem obAt_app {fs : px_FS} {x : Nat × (Nat → Nat)} {q : Nat} (h : q / 8 < fs.length) : obAt (fs ++ [x]) q = obAt fs q := by
  unfold obAt
  rw [List.getElem?_append_left h]
section CXS
variable {sk sk' : Nat → Nat × Nat × Nat} {L L' : Nat} {own : Nat → Nat × Nat} {τ τ' τ'' : px_TT} {fs : px_FS} {gs : List (List Nat × Int64)} {ws : List (List Nat)} {n : Nat} {b : Nat → Nat} {a : Int32} {Y : px_Y}
theorem frWx_refl : frWx τ τ := ⟨⟨rfl, rfl, fun _ _ => ⟨fun _ _ => rfl, rfl⟩⟩, ⟨rfl, rfl, rfl, fun _ _ _ => ⟨rfl, fun _ => rfl⟩⟩, rfl, rfl, rfl, rfl⟩
theorem frV_refl : frV τ τ := fun _ _ => ⟨rfl, rfl⟩
theorem frWx_trans (h : frWx τ τ') (g : frWx τ' τ'') : frWx τ τ'' := by
  obtain ⟨⟨a1, a2, a3⟩, ⟨a4, a5, a6, a7⟩, a8, a9, a10, a11⟩ := h
  obtain ⟨⟨b1, b2, b3⟩, ⟨b4, b5, b6, b7⟩, b8, b9, b10, b11⟩ := g
  exact ⟨⟨b1.trans a1, b2.trans a2, fun x hx => ⟨fun k hk => ((b3 x hx).1 k hk).trans ((a3 x hx).1 k hk), (b3 x hx).2.trans (a3 x hx).2⟩⟩, ⟨b4.trans a4, b5.trans a5, b6.trans a6, fun i p hp => ⟨(b7 i p (by rw [a4]; exact hp)).1.trans (a7 i p hp).1, fun k => ((b7 i p (by rw [a4]; exact hp)).2 k).trans ((a7 i p hp).2 k)⟩⟩, b8.trans a8, b9.trans a9, b10.trans a10, b11.trans a11⟩
theorem frV_trans (h : frV τ τ') (g : frV τ' τ'') : frV τ τ'' := fun q hq => ⟨(g q hq).1.trans (h q hq).1, (g q hq).2.trans (h q hq).2⟩
theorem frWx_g (hn : NP sk L τ own) (e : ∀ A, eN τ' A = eN τ A) (hI : ∀ a k, 147 ≤ a → fI τ' a k = fI τ a k) (hJ : ∀ a k, 147 ≤ a → fJ τ' a k = fJ τ a k) (hN : ∀ a k, fN τ' a k = fN τ a k) (hE : eI τ' 1703 = eI τ 1703) : frWx τ τ' := ⟨⟨hI 1700 11 (by decide), e 1701, fun x _ => ⟨fun k _ => hI _ k (by omega), hJ _ 11 (by omega)⟩⟩, ⟨e 149, hN 148 0, hI 148 2 (by decide), fun i p hp => by
  have h1 := (hn 149 i p (Or.inr (Or.inr rfl)) hp).1
  exact ⟨hI p 3 (by omega), fun k => hJ p k (by omega)⟩⟩, hI 147 15 (by decide), e 1693, hI 1711 1 (by decide), hE⟩
theorem frWx_Z (hn : NP sk L τ own) (f : frZ τ τ') (h11 : fI τ' 1711 1 = fI τ 1711 1) : frWx τ τ' := by
  obtain ⟨f1, f2, f3, f4, f5, f6⟩ := f
  refine ⟨⟨f1 1700 11 (Zc_no (by omega)) (by omega) (by omega) (by omega) (by omega), f6 1701 (by decide), fun x hx => ⟨fun k hk => f1 _ k (Zc_no (by omega)) (by omega) (by omega) (by omega) (by omega), f2 _ 11 (Zc_no (by omega)) (by omega)⟩⟩, ⟨f6 149 (by decide), f3 148 0 (by omega), f1 148 2 (Zc_no (by omega)) (by omega) (by omega) (by omega) (by omega), fun i p hp => ?_⟩, f1 147 15 (Zc_no (by omega)) (by omega) (by omega) (by omega) (by omega), f6 1693 (by decide), h11, f4 1703 (Zc_no (by omega))⟩
  have h1 := (hn 149 i p (Or.inr (Or.inr rfl)) hp).1
  exact ⟨f1 p 3 (Zc_no (by omega)) (by omega) (by omega) (by omega) (by omega), fun k => f2 p k (Zc_no (by omega)) (by omega)⟩
theorem frV_Z (f : frZ τ τ') : frV τ τ' := fun q hq => ⟨f.1 _ 15 (Zc_no (by omega)) (by omega) (by omega) (by omega) (by omega), f.1 _ 16 (Zc_no (by omega)) (by omega) (by omega) (by omega) (by omega)⟩
/-- a name told anew -/
theorem frWx_U {own' : Nat → Nat × Nat} {p A i : Nat} (hn : NP sk L τ own) (hn' : NP sk' L' τ' own') (hA : A = 141 ∨ A = 144) (hp : 1815 ≤ p) (ep : eN τ' A i = some p) (f : frU p τ τ') : frWx τ τ' := by
  obtain ⟨f1, f2, f3, f4, f5, f6⟩ := f
  refine ⟨⟨f1 1700 11 (by omega) (by omega) (by omega) (by omega) (by omega), f6 1701 (by decide) (by decide), fun x hx => ⟨fun k hk => f1 _ k (by omega) (by omega) (by omega) (by omega) (by omega), f2 _ 11 (by omega) (by omega)⟩⟩, ⟨f6 149 (by decide) (by decide), f3 148 0 (by omega), f1 148 2 (by omega) (by omega) (by omega) (by omega) (by omega), fun j q hq => ?_⟩, f1 147 15 (by omega) (by omega) (by omega) (by omega) (by omega), f6 1693 (by decide) (by decide), f1 1711 1 (by omega) (by omega) (by omega) (by omega) (by omega), f4 1703⟩
  have hq1 := (hn 149 j q (Or.inr (Or.inr rfl)) hq).1
  have hq' : eN τ' 149 j = some q := by rw [f6 149 (by decide) (by decide)]; exact hq
  have hne : q ≠ p := NP_ne hn' (Or.inr (Or.inr rfl)) (by omega) hq' ep (by omega)
  exact ⟨f1 q 3 hne (by omega) (by omega) (by omega) (by omega), fun k => f2 q k hne (by omega)⟩
theorem CXp_W {ps : List (Nat × Nat × Nat × Nat × Nat × Nat)} (h : CXp τ ps) (f : frWx τ τ') : CXp τ' ps := by
  refine ⟨f.1.1.trans h.1, h.2.1, fun i p hp => ?_⟩
  obtain ⟨hb, x, x1, x2, x3, x4, x5, x6, x7, x8⟩ := h.2.2 i p hp
  have w := f.1.2.2 x x1
  exact ⟨hb, x, x1, by rw [f.1.2.1]; exact x2, (w.1 1 (by decide)).trans x3, (w.1 2 (by decide)).trans x4, (w.1 3 (by decide)).trans x5, (w.1 4 (by decide)).trans x6, (w.1 5 (by decide)).trans x7, w.2.trans x8⟩
theorem pN_W (f : frWx τ τ') : pN τ' 149 = pN τ 149 := by
  funext i
  unfold pN
  rw [f.2.1.1]
theorem CXn_W {ns : List (List Nat × Int64)} {od : List Nat} (h : CXn sk L τ ns od) (e : EX sk L sk' L') (f : frWx τ τ') : CXn sk' L' τ' ns od := by
  obtain ⟨⟨⟨s1, s2, s3, s4, s5, s6, s7⟩, hnt⟩, h2, h3, h4⟩ := h
  have hp := pN_W f
  unfold CXn
  rw [hp]
  refine ⟨⟨⟨ob_ex s1 e, f.2.1.2.1.trans s2, ar_ex s3 e, s4, s5, f.2.1.2.2.1.trans s6, fun i w hw => ?_⟩, hnt⟩, fun i x hx => ?_, f.2.2.1.trans h3, fun i d hd => ⟨(h4 i d hd).1, by rw [f.2.2.2.1]; exact (h4 i d hd).2⟩⟩
  · obtain ⟨w1', w2', w3', w4'⟩ := s7 i w hw
    have g := f.2.1.2.2.2 i _ w2'
    refine ⟨w1', by rw [f.2.1.1]; exact w2', ob_ex w3' e, (g.2 0).trans w4'.1, (g.2 1).trans w4'.2.1, (g.2 2).trans w4'.2.2.1, g.1.trans w4'.2.2.2⟩
  · have hw : (ns.map Prod.fst)[i]? = some x.1 := by rw [List.getElem?_map, hx]; rfl
    obtain ⟨_, w2', _⟩ := s7 i _ hw
    exact ((f.2.1.2.2.2 i _ w2').2 14).trans (h2 i x hx)
theorem CXm_V {tk : Nat → Bool} {ca : Nat → Option (List Nat)} (h : CXm τ fs tk ca) (f : frV τ τ') : CXm τ' fs tk ca := fun q hq => by
  obtain ⟨h1, h2, h3, h4⟩ := h q hq
  refine ⟨(f q hq).1.trans h1, fun e => (f q hq).2.trans (h2 e), fun w e => ?_, h4⟩
  obtain ⟨t, o, n, b, j, x1, x2, x3, x4, x5, x6⟩ := h3 w e
  exact ⟨t, o, n, b, j, x1, x2, x3, x4, (f q hq).2.trans x5, x6⟩
theorem CKZ_W {fe : Nat} {th : Nat → Bool} (h : CKZ τ fe th) (f : frWx τ τ') : CKZ τ' fe th := ⟨h.1, f.2.2.2.2.1.trans h.2.1, fun j hj => by rw [f.2.2.2.2.2]; exact h.2.2 j hj⟩
theorem CX_W (h : CX sk L τ fs a Y) (e : EX sk L sk' L') (f : frWx τ τ') (g : frV τ τ') : CX sk' L' τ' fs a Y := ⟨⟨CXm_V h.1.1 g, fun h0 => ⟨CXp_W (h.1.2 h0).1 f, CXn_W (h.1.2 h0).2 e f⟩⟩, fun h0 => CKZ_W (h.2 h0) f⟩
theorem CX_z (h : CX sk L τ fs a Y) : ∀ q, OBq q → isZ (fI τ q 15) := by
  rintro q ⟨i, hi, rfl⟩
  exact ⟨_, (h.1.1 i hi).1⟩
theorem CX_Z (h : CX sk L τ fs a Y) (hn : NP sk L τ own) (f : frZ τ τ') (h11 : fI τ' 1711 1 = fI τ 1711 1) : CX sk L τ' fs a Y := CX_W h EX_refl (frWx_Z hn f h11) (frV_Z f)
/-- files were added, or not: the marks stand as they stood -/
theorem frV_D (h : CX sk L τ fs a Y) (f : frD fs.length τ τ') : frV τ τ' := fun q hq => by
  obtain ⟨h1, h2, h3, h4⟩ := h.1.1 q hq
  by_cases c : q < 8 * fs.length
  · exact ⟨f.1 _ 15 (by omega) (by omega) (by omega) (by omega), f.1 _ 16 (by omega) (by omega) (by omega) (by omega)⟩
  · have t0 := h4 (by omega)
    have c0 : Y.2.1 q = none := by
      cases e : Y.2.1 q with
      | none => rfl
      | some w => rw [(h3 w e).1] at t0; cases t0
    have e15 : fI τ (10 + 2 * q) 15 = nI 0 := by rw [h1, t0]; rfl
    have e16 := h2 c0
    obtain ⟨z1, z2⟩ := f.2.2.2.2.2.2 (10 + 2 * q) (by omega)
    refine ⟨?_, ?_⟩
    · rcases z1 with z | z
      · exact z
      · rw [z, e15]
    · rcases z2 with z | z
      · exact z
      · rw [z, e16]
theorem CX_add {x : Nat × (Nat → Nat)} (h : CX sk L τ fs a Y) : CX sk L τ (fs ++ [x]) a Y := by
  refine ⟨⟨fun q hq => ?_, h.1.2⟩, h.2⟩
  obtain ⟨h1, h2, h3, h4⟩ := h.1.1 q hq
  refine ⟨h1, h2, fun w e => ?_, fun c => h4 (by rw [List.length_append] at c; omega)⟩
  obtain ⟨t, o, n, b, j, x1, x2⟩ := h3 w e
  exact ⟨t, o, n, b, j, (obAt_app (obAt_lt x1)).trans x1, x2⟩
theorem CX_drop {x : Nat × (Nat → Nat)} (h : CX sk L τ (fs ++ [x]) a Y) (f : frD fs.length τ τ') (w : frWx τ τ') (hc : ∀ j, j < 8 → clF τ' (10 + 2 * (8 * fs.length + j))) : CX sk L τ' fs a (dropY fs.length Y) := by
  refine ⟨⟨fun q hq => ?_, fun h0 => ⟨CXp_W (h.1.2 h0).1 w, CXn_W (h.1.2 h0).2 EX_refl w⟩⟩, fun h0 => CKZ_W (h.2 h0) w⟩
  obtain ⟨h1, h2, h3, h4⟩ := h.1.1 q hq
  rw [List.length_append, List.length_singleton] at h4
  show fI τ' (10 + 2 * q) 15 = bI (decide (q < 8 * fs.length) && Y.1.1 q) ∧ ((if q < 8 * fs.length then Y.2.1 q else none) = none → fI τ' (10 + 2 * q) 16 = nI 0) ∧ (∀ w, (if q < 8 * fs.length then Y.2.1 q else none) = some w → (decide (q < 8 * fs.length) && Y.1.1 q) = true ∧ ∃ o n b j, obAt fs q = some (o, n, b, false) ∧ 1 ≤ j ∧ j < oM b ∧ yB b j ≠ 0 ∧ fI τ' (10 + 2 * q) 16 = nI j ∧ yT b j = w) ∧ (8 * fs.length ≤ q → (decide (q < 8 * fs.length) && Y.1.1 q) = false)
  by_cases c : q < 8 * fs.length
  · have e15 : fI τ' (10 + 2 * q) 15 = fI τ (10 + 2 * q) 15 := f.1 _ 15 (by omega) (by omega) (by omega) (by omega)
    have e16 : fI τ' (10 + 2 * q) 16 = fI τ (10 + 2 * q) 16 := f.1 _ 16 (by omega) (by omega) (by omega) (by omega)
    rw [decide_eq_true c, Bool.true_and, if_pos c]
    refine ⟨e15.trans h1, fun e => e16.trans (h2 e), fun w e => ?_, fun d => by omega⟩
    obtain ⟨t, o, n, b, j, x1, x2, x3, x4, x5, x6⟩ := h3 w e
    exact ⟨t, o, n, b, j, (obAt_app (by omega)).symm.trans x1, x2, x3, x4, e16.trans x5, x6⟩
  · rw [decide_eq_false c, Bool.false_and, if_neg c]
    have hz : fI τ' (10 + 2 * q) 15 = nI 0 ∧ fI τ' (10 + 2 * q) 16 = nI 0 := by
      by_cases d : q < 8 * fs.length + 8
      · have w := (hc (q - 8 * fs.length) (by omega)).2
        rw [show 8 * fs.length + (q - 8 * fs.length) = q by omega] at w
        exact w
      · have t0 := h4 (by omega)
        have c0 : Y.2.1 q = none := by
          cases e : Y.2.1 q with
          | none => rfl
          | some w => rw [(h3 w e).1] at t0; cases t0
        have e15 : fI τ (10 + 2 * q) 15 = nI 0 := by rw [h1, t0]; rfl
        have e16 := h2 c0
        obtain ⟨z1, z2⟩ := f.2.2.2.2.2.2 (10 + 2 * q) (by omega)
        refine ⟨?_, ?_⟩
        · rcases z1 with z | z
          · exact z.trans e15
          · exact z
        · rcases z2 with z | z
          · exact z.trans e16
          · exact z
    exact ⟨hz.1, fun _ => hz.2, fun w e => (by cases e), fun _ => rfl⟩
end CXS
end
section
/-! what holds of the class between two calls -/
def CVr (sk : Nat → Nat × Nat × Nat) (L : Nat) (τ : px_TT) : Prop := isNm τ 1696 wST ∧ ROk sk L τ ∧ MEm τ ∧ WLk sk L τ ∧ NTb sk L τ ∧ ∃ t, t ≤ 64 ∧ fI τ 147 14 = nI t
def CV (sk : Nat → Nat × Nat × Nat) (L : Nat) (own : Nat → Nat × Nat) (τ : px_TT) (fs : List (Nat × (Nat → Nat))) (gs : List (List Nat × Int64)) (ws : List (List Nat)) (n : Nat) (b : Nat → Nat) (a : Int32) (Y : px_Y) : Prop := GS sk L ∧ GR τ ∧ NP sk L τ own ∧ CF sk L τ fs ∧ CG sk L τ gs ∧ CW sk L τ ws ∧ CTp τ n b ∧ CVr sk L τ ∧ CX sk L τ fs a Y ∧ ((gs.map Prod.fst).Nodup ∧ (∀ w, w ∈ gs.map Prod.fst → nT w) ∧ ∀ w, w ∈ ws → nT w) ∧ fI τ 147 18 = a
/-- the reference's cells are as they were -/
def K26 (τ τ' : px_TT) : Prop := ∀ a, 1726 ≤ a → a < 1815 → (∀ k, fI τ' a k = fI τ a k) ∧ (∀ k, fJ τ' a k = fJ τ a k) ∧ (∀ k, fN τ' a k = fN τ a k) ∧ eI τ' a = eI τ a ∧ eJ τ' a = eJ τ a ∧ eN τ' a = eN τ a
theorem K26_trans {τ τ1 τ2 : px_TT} (h : K26 τ τ1) (g : K26 τ1 τ2) : K26 τ τ2 := fun a h1 h2 => by
  obtain ⟨a1, a2, a3, a4, a5, a6⟩ := h a h1 h2
  obtain ⟨b1, b2, b3, b4, b5, b6⟩ := g a h1 h2
  exact ⟨fun k => (b1 k).trans (a1 k), fun k => (b2 k).trans (a2 k), fun k => (b3 k).trans (a3 k), b4.trans a4, b5.trans a5, b6.trans a6⟩
theorem K26_refl (τ : px_TT) : K26 τ τ := fun _ _ _ => ⟨fun _ => rfl, fun _ => rfl, fun _ => rfl, rfl, rfl, rfl⟩
theorem K26_Z {τ τ' : px_TT} (h : frZ τ τ') : K26 τ τ' := fun a h1 h2 => ⟨fun k => h.1 a k (Zc_no (by omega)) (by omega) (by omega) (by omega) (by omega), fun k => h.2.1 a k (Zc_no (by omega)) (by omega), fun k => h.2.2.1 a k (by omega), h.2.2.2.1 a (Zc_no (by omega)), h.2.2.2.2.1 a (Zc_no (by omega)), h.2.2.2.2.2 a (by omega)⟩
section CVS
variable {F : Nat} {c : px_CT} {sk sk' : Nat → Nat × Nat × Nat} {L L' : Nat} {own : Nat → Nat × Nat} {τ τ' : px_TT} {fs : List (Nat × (Nat → Nat))} {gs : List (List Nat × Int64)} {ws : List (List Nat)} {n : Nat} {b : Nat → Nat} {a : Int32} {Y : px_Y}
theorem Nmo_fx {p : Nat} (h : Nmo sk L τ p) (e : EX sk L sk' L') (h5 : fI τ' p 5 = fI τ p 5) (h6 : fN τ' p 6 = fN τ p 6) : Nmo sk' L' τ' p := ⟨h.1, ob_ex h.2.1 e, fun w => by rw [h6]; exact h.2.2 (h5.symm.trans w)⟩
theorem CVr_fx (h : CVr sk L τ) (e : EX sk L sk' L') (hI : ∀ a k, (a = 3 ∨ a = 5 ∨ (a = 147 ∧ (k = 14 ∨ k = 15)) ∨ (a = 148 ∧ k = 2) ∨ a = 1696 ∨ (a = 1700 ∧ k = 11) ∨ (1711 ≤ a ∧ a < 1726)) → fI τ' a k = fI τ a k) (hJ : ∀ k, fJ τ' 1696 k = fJ τ 1696 k) (hN : ∀ a k, (a = 0 ∨ a = 3 ∨ a = 5 ∨ (1711 ≤ a ∧ a < 1726)) → fN τ' a k = fN τ a k) (hE : ∀ a, (a = 4 ∨ a = 6 ∨ (1711 ≤ a ∧ a < 1726)) → eI τ' a = eI τ a) (hn : ∀ a, (a = 149 ∨ a = 1693 ∨ a = 1701) → eN τ' a = eN τ a) (hp : ∀ d p, eN τ 149 d = some p → fI τ' p 5 = fI τ p 5 ∧ fN τ' p 6 = fN τ p 6) : CVr sk' L' τ' := by
  obtain ⟨h1, h2, ⟨⟨m6, h6, e6⟩, m9, h9, e9⟩, ⟨⟨o, ho, eo, hw⟩, hwo⟩, ⟨m, hm, em, hnt⟩, t, ht, et⟩ := h
  refine ⟨⟨(hJ 0).trans h1.1, (hJ 1).trans h1.2.1, (hJ 2).trans h1.2.2.1, (hI 1696 3 (by omega)).trans h1.2.2.2⟩, ROk_fx h2 e (fun k => hN 0 k (by omega)) (fun a k ha => hN a k (by omega)) (fun a k ha => hI a k (by omega)) (fun a ha => hE a (by omega)), ⟨⟨m6, h6, (hI 1718 6 (by omega)).trans e6⟩, m9, h9, (hI 1718 9 (by omega)).trans e9⟩, ⟨⟨o, ho, (hI 147 15 (by omega)).trans eo, fun i hi => ?_⟩, WOr_fx hwo (hI 1700 11 (by omega)) (hn 1701 (by omega))⟩, ⟨m, hm, (hI 148 2 (by omega)).trans em, fun i hi => ?_⟩, t, ht, (hI 147 14 (by omega)).trans et⟩
  · obtain ⟨p, e1, e2, d, e3⟩ := hw i hi
    rw [hn 1693 (by omega), hn 149 (by omega)]
    exact ⟨p, e1, Nmo_fx e2 e (hp d p e3).1 (hp d p e3).2, d, e3⟩
  · obtain ⟨p, e1, e2, e3⟩ := hnt i hi
    rw [hn 149 (by omega)]
    exact ⟨p, e1, e2, ob_ex e3 e⟩
theorem CV_S4 (h : CV sk L own τ fs gs ws n b a Y) : S4 sk L τ := by
  obtain ⟨hS, hR, hn, hf, hg, hw, ht, ⟨h1, h2, h3, h4, h5, h6⟩, hz, hnd⟩ := h
  refine ⟨⟨⟨⟨hS, hR, n, ht.2.1, ht.1⟩, CF_MB hf, ⟨_, ?_, hf.2.2.2.1⟩, hf.2.2.1⟩, h4⟩, ⟨_, hf.2.1, hf.1⟩, CF_KD hf, CX_z hz, h6, ht.2.2.1⟩
  have w1 := CF_off hf (Nat.le_refl _)
  have w2 := hf.2.1
  omega
theorem SI_self (h : CV sk L own τ fs gs ws n b a Y) : SI none sk L τ τ := by
  obtain ⟨hS, hR, hn, hf, hg, hw, ht, ⟨h1, h2, h3, h4, h5, h6⟩, hz, hnd⟩ := h
  exact ⟨frZ_refl, ⟨fun _ => rfl, rfl, rfl, fun _ => rfl, rfl⟩, h2, h3, fun N hN => by cases hN⟩
theorem CTp_SI (h : CTp τ n b) (e1 : fI τ' 1 1 = fI τ 1 1) (e2 : eI τ' 2 = eI τ 2) : CTp τ' n b := ⟨e1.trans h.1, h.2.1, by rw [e2]; exact h.2.2.1, by rw [e2]; exact h.2.2.2⟩
theorem CV_SI {zb : Option Nat} (h : CV sk L own τ fs gs ws n b a Y) (hI : SI zb sk L τ τ') : CV sk L own τ' fs gs ws n b a Y := by
  obtain ⟨hS, hR, hn, hf, hg, hw, ht, ⟨h1, h2, h3, ⟨⟨o, ho, eo, hwk⟩, hwo⟩, ⟨m, hm, em, hnt⟩, t, h6, e6⟩, hz, hnd⟩ := h
  have g2 := hI.2.2.1
  have g3 := hI.2.2.2.1
  obtain ⟨f1, f2, f3, f4, f5, f6⟩ := hI.1
  refine ⟨hS, GR_Z hR hI.1, NP_Z hn hI.1, CF_Z hf hI.1, CG_Z hg hn hI.1, CW_Z hw hn hI.1, CTp_SI ht (hI.2.1.1 1) hI.2.1.2.1, ⟨isNm_Z h1 hI.1, g2, g3, ⟨⟨o, ho, (f1 147 15 (Zc_no (by omega)) (by omega) (by omega) (by omega) (by omega)).trans eo, fun i hi => ?_⟩, WOr_fx hwo (f1 1700 11 (Zc_no (by omega)) (by omega) (by omega) (by omega) (by omega)) (f6 1701 (by decide))⟩, ⟨m, hm, (f1 148 2 (Zc_no (by omega)) (by omega) (by omega) (by omega) (by omega)).trans em, fun i hi => ?_⟩, t, h6, (f1 147 14 (Zc_no (by omega)) (by omega) (by omega) (by omega) (by omega)).trans e6⟩, CX_Z hz hn hI.1 (hI.2.1.2.2.2.1 1), hnd.1, hI.2.1.2.2.1.trans hnd.2⟩
  · obtain ⟨p, e1, e2, d, e3⟩ := hwk i hi
    have hp := e2.1
    rw [f6 1693 (by decide), f6 149 (by decide)]
    exact ⟨p, e1, Nmo_fx e2 EX_refl (f1 p 5 (Zc_no (by omega)) (by omega) (by omega) (by omega) (by omega)) (f3 p 6 (by omega)), d, e3⟩
  · obtain ⟨p, e1, e2⟩ := hnt i hi
    rw [f6 149 (by decide)]
    exact ⟨p, e1, e2⟩
/-- the tape is cleared -/
theorem CV_clr (h : CV sk L own τ fs gs ws n b a Y) : CV sk L own (tI (tI τ 1 1 (nI 0)) 1 2 (bI false)) fs gs ws 0 (fun _ => 0) a Y := by
  obtain ⟨hS, hR, hn, hf, hg, hw, ht, hr, hz, hnd⟩ := h
  have hI : ∀ a k, a ≠ 1 → fI (tI (tI τ 1 1 (nI 0)) 1 2 (bI false)) a k = fI τ a k := fun a k ha => (tI_ne (Or.inl ha)).trans (tI_ne (Or.inl ha))
  have hZ : frZ τ (tI (tI τ 1 1 (nI 0)) 1 2 (bI false)) := frZ_trans (frZ_I (Or.inl (by unfold Zc; omega))) (frZ_I (Or.inl (by unfold Zc; omega)))
  refine ⟨hS, GR_Z hR hZ, NP_Z hn hZ, CF_Z hf hZ, CG_Z hg hn hZ, CW_Z hw hn hZ, ⟨(tI_ne (Or.inr (by decide))).trans tI_at, Nat.zero_le _, ht.2.2.1, ?_⟩, CVr_fx hr EX_refl (fun a k ha => hI a k (by omega)) (fun _ => rfl) (fun _ _ _ => rfl) (fun _ _ => rfl) (fun _ _ => rfl) (fun d p e => ⟨hI p 5 (by have := (hn 149 d p (Or.inr (Or.inr rfl)) e).1; omega), rfl⟩), CX_Z hz hn hZ (hI 1711 1 (by decide)), hnd.1, (hI 147 18 (by decide)).trans hnd.2⟩
  funext x
  unfold cb
  rw [if_neg (Nat.not_lt_zero x)]
end CVS
end
section
/-! the class's calls keep what holds between calls -/
section CVT
variable {F : Nat} {c : px_CT} {sk sk' : Nat → Nat × Nat × Nat} {L L' : Nat} {own : Nat → Nat × Nat} {τ τ' : px_TT} {fs : List (Nat × (Nat → Nat))} {gs : List (List Nat × Int64)} {ws : List (List Nat)} {n : Nat} {b : Nat → Nat} {a : Int32} {Y : px_Y}
theorem CVx (h : CV sk L own τ fs gs ws n b a Y) (e : ∀ A, eN τ' A = eN τ A) (hI : ∀ a k, (a = 3 ∨ a = 5 ∨ (138 ≤ a ∧ a ≠ 146)) → fI τ' a k = fI τ a k) (hJ : ∀ a k, a ≠ 146 → fJ τ' a k = fJ τ a k) (hN : ∀ a k, fN τ' a k = fN τ a k) (hE : ∀ a, (a = 4 ∨ a = 6 ∨ 1700 ≤ a) → eI τ' a = eI τ a) : NP sk L τ' own ∧ CG sk L τ' gs ∧ CW sk L τ' ws ∧ CVr sk L τ' := by
  obtain ⟨hS, hR, hn, hf, hg, hw, ht, hr, hz, hnd⟩ := h
  have cn : ∀ {N A : Nat} {vs : List (List Nat)}, CN sk L τ N A vs → (N = 140 ∨ N = 143) → (A = 141 ∨ A = 144) → CN sk L τ' N A vs := fun {N A vs} w hN' hA => CN_mv w EX_refl (hN N 0) (hI N 2 (by omega)) (fun i _ => congrFun (e A) i) (fun i p _ hp => by
    have := (hn A i p (by omega) hp).1
    exact ⟨fun k _ => hJ p k (by omega), hI p 3 (by omega)⟩)
  refine ⟨NP_fx hn (fun A _ => e A), ⟨cn hg.1 (Or.inl rfl) (Or.inl rfl), fun i x hx => ?_⟩, cn hw (Or.inr rfl) (Or.inr rfl), CVr_fx hr EX_refl (fun a k ha => hI a k (by omega)) (fun k => hJ 1696 k (by decide)) (fun a k _ => hN a k) (fun a ha => hE a (by omega)) (fun a _ => e a) (fun d p hp => ?_)⟩
  · rw [e 141, ← hg.2 i x hx]
    refine hJ _ 7 ?_
    cases hq : eN τ 141 i with
    | none => decide
    | some p => have := (hn 141 i p (Or.inl rfl) hq).1; show p ≠ 146; omega
  · have := (hn 149 d p (Or.inr (Or.inr rfl)) hp).1
    exact ⟨hI p 5 (by omega), hN p 6⟩
theorem v_add (hc : KT c) (hF : 65540 < F) (h : CV sk L own τ fs gs ws n b a Y) (hfl : fs.length < 8) : ∃ τ', f_H_add F c 0 (cH sk L τ) = some (nI (eFil b n), cH sk L τ') ∧ CV sk L own τ' (if eFil b n = 0 then fs ++ [(n, b)] else fs) gs ws 0 (fun _ => 0) a Y ∧ K26 τ τ' := by
  obtain ⟨hS, hR, hn, hf, hg, hw, ht, hr, hz, hnd⟩ := id h
  obtain ⟨τ', e, g1, g2, g3, fD⟩ := k_add (F := F) (c := c) hc hS hR (by omega) ht hf hfl
  obtain ⟨f1, f2, f3, f4, f5, f6, f7⟩ := id fD
  have hX : CX sk L τ' fs a Y := CX_W hz EX_refl (frWx_g hn f6 (fun a k ha => f1 a k (by omega) (by omega) (by omega) (by omega)) (fun a k _ => f2 a k) f3 (f4 1703 (by omega) (by omega) (by omega) (by omega))) (frV_D hz fD)
  obtain ⟨x1, x2, x3, x4⟩ := CVx (τ' := τ') h f6 (fun a k ha => f1 a k (by omega) (by omega) (by omega) (by omega)) (fun a k _ => f2 a k) f3 (fun a ha => f4 a (by omega) (by omega) (by omega) (by omega))
  refine ⟨τ', e, ⟨hS, g1, x1, g3, x2, x3, g2, x4, by split <;> first | exact CX_add hX | exact hX, hnd.1, (f1 147 18 (by omega) (by omega) (by omega) (by omega)).trans hnd.2⟩, fun a h1 h2 => ⟨fun k => f1 a k (by omega) (by omega) (by omega) (by omega), fun k => f2 a k, fun k => f3 a k, f4 a (by omega) (by omega) (by omega) (by omega), f5 a, f6 a⟩⟩
theorem v_drop {x : Nat × (Nat → Nat)} (hF : 65540 < F) (h : CV sk L own τ (fs ++ [x]) gs ws n b a Y) : ∃ τ', f_H_drop F c 0 (cH sk L τ) = some (nI fs.length, cH sk L τ') ∧ CV sk L own τ' fs gs ws n b a (dropY fs.length Y) ∧ K26 τ τ' := by
  obtain ⟨hS, hR, hn, hf, hg, hw, ht, hr, hz, hnd⟩ := id h
  have hl : fs.length < 8 := by have := hf.2.1; rw [List.length_append, List.length_singleton] at this; omega
  obtain ⟨τ', e, g1, g2, g3, fD, hcl⟩ := k_drop (F := F) (c := c) hS hR (by omega) ht hf
  obtain ⟨f1, f2, f3, f4, f5, f6, f7⟩ := id fD
  have hX : CX sk L τ' fs a (dropY fs.length Y) := CX_drop hz fD (frWx_g hn f6 (fun a k ha => f1 a k (by omega) (by omega) (by omega) (by omega)) (fun a k _ => f2 a k) f3 (f4 1703 (by omega) (by omega) (by omega) (by omega))) hcl
  obtain ⟨x1, x2, x3, x4⟩ := CVx (τ' := τ') h f6 (fun a k ha => f1 a k (by omega) (by omega) (by omega) (by omega)) (fun a k _ => f2 a k) f3 (fun a ha => f4 a (by omega) (by omega) (by omega) (by omega))
  refine ⟨τ', e, ⟨hS, g1, x1, g3, x2, x3, g2, x4, hX, hnd.1, (f1 147 18 (by omega) (by omega) (by omega) (by omega)).trans hnd.2⟩, fun a h1 h2 => ⟨fun k => f1 a k (by omega) (by omega) (by omega) (by omega), fun k => f2 a k, fun k => f3 a k, f4 a (by omega) (by omega) (by omega) (by omega), f5 a, f6 a⟩⟩
theorem v_feed {v w : Nat} (hF : 65540 < F) (h : CV sk L own τ fs gs ws n b a Y) (hv : v < 2 ^ 64) (h1 : 1 ≤ w) (hw8 : w ≤ 8) (hnw : n + w ≤ 8192) : ∃ τ', f_H_feed F c 0 (nI w) (lN v) (cH sk L τ) = some (nI (n + w), cH sk L τ') ∧ CV sk L own τ' fs gs ws (n + w) (fdd b n v w) a Y ∧ K26 τ τ' := by
  obtain ⟨hS, hR, hn, hf, hg, hw, ht, hr, hz, hnd⟩ := id h
  obtain ⟨τ', e, g1, g2, f1, f2, f3, f4, f5, f6⟩ := k_feed (F := F) (c := c) hS hR (by omega) hv h1 hw8 hnw ht
  obtain ⟨x1, x2, x3, x4⟩ := CVx (τ' := τ') h f6 (fun a k ha => f1 a k (by omega)) (fun a k _ => f2 a k) f3 (fun a ha => f4 a (by omega))
  refine ⟨τ', e, ⟨hS, g1, x1, CF_mv hf EX_refl ⟨fun a k ha hk => f1 a k (by omega), fun a k _ => f3 a k, fun a ha => f4 a (by omega)⟩, x2, x3, g2, x4, CX_W hz EX_refl (frWx_g hn f6 (fun a k ha => f1 a k (by omega)) (fun a k _ => f2 a k) f3 (f4 1703 (by omega))) (fun q _ => ⟨f1 _ 15 (by omega), f1 _ 16 (by omega)⟩), hnd.1, (f1 147 18 (by omega)).trans hnd.2⟩, fun a h1 h2 => ⟨fun k => f1 a k (by omega), fun k => f2 a k, fun k => f3 a k, f4 a (by omega), f5 a, f6 a⟩⟩
theorem v_forget (h : CV sk L own τ fs gs ws n b a Y) : ∃ τ', f_H_forget F c 0 (cH sk L τ) = some ((), cH sk L τ') ∧ CV sk L own τ' fs [] [] n b a Y ∧ K26 τ τ' := by
  obtain ⟨hS, hR, hn, hf, hg, hw, ht, hr, hz, hnd⟩ := id h
  obtain ⟨τ', e, g1, g2, g3, f1, f2⟩ := k_forget (F := F) (c := c) hS hR hg hw
  have hJ : ∀ a k, fJ τ' a k = fJ τ a k := fun a k => by unfold fJ; rw [f2]
  have hN : ∀ a k, fN τ' a k = fN τ a k := fun a k => by unfold fN; rw [f2]
  have hE : ∀ a, eI τ' a = eI τ a := fun a => by unfold eI; rw [f2]
  have hn' : ∀ a, eN τ' a = eN τ a := fun a => by unfold eN; rw [f2]
  refine ⟨τ', e, ⟨hS, g1, NP_fx hn (fun A _ => hn' A), CF_mv hf EX_refl ⟨fun a k ha hk => f1 a k (by omega) (by omega), fun a k _ => hN a k, fun a ha => hE a⟩, g2, g3, CTp_SI ht (f1 1 1 (by omega) (by omega)) (hE 2), CVr_fx hr EX_refl (fun a k ha => f1 a k (by omega) (by omega)) (hJ 1696) (fun a k _ => hN a k) (fun a _ => hE a) (fun a _ => hn' a) (fun d p hp => ?_), CX_W hz EX_refl (frWx_g hn hn' (fun a k ha => f1 a k (by omega) (by omega)) (fun a k _ => hJ a k) hN (hE 1703)) (fun q _ => ⟨f1 _ 15 (by omega) (by omega), f1 _ 16 (by omega) (by omega)⟩), ⟨List.nodup_nil, fun w h => (by cases h), fun w h => (by cases h)⟩, (f1 147 18 (by omega) (by omega)).trans hnd.2⟩, fun a h1 h2 => ⟨fun k => f1 a k (by omega) (by omega), hJ a, hN a, hE a, by unfold eJ; rw [f2], hn' a⟩⟩
  have := (hn 149 d p (Or.inr (Or.inr rfl)) hp).1
  exact ⟨f1 p 5 (by omega) (by omega), hN p 6⟩
theorem v_address (hF : 65540 < F) (h : CV sk L own τ fs gs ws n b a Y) (ha : a = nI 0) : ∃ v τ', f_H_address F c 0 (cH sk L τ) = some (v, cH sk L τ') ∧ CV sk L own τ' fs gs ws 0 (fun _ => 0) a Y ∧ K26 τ τ' := by
  obtain ⟨hS, hR, hn, hf, hg, hw, ht, hr, hz, hnd⟩ := id h
  obtain ⟨v, τ', e, g1, g2, f1, f2, f3, f4, f5, f6⟩ := k_Haddress (F := F) (c := c) hF hS hR ht hr.2.2.2.2.1 (hnd.2.trans ha)
  obtain ⟨x1, x2, x3, x4⟩ := CVx (τ' := τ') h f6 (fun a k ha => f1 a k (by omega) (by omega)) (fun a k ha => f2 a k (by omega)) f3 (fun a _ => f4 a)
  refine ⟨v, τ', e, ⟨hS, g1, x1, CF_mv hf EX_refl ⟨fun a k ha hk => f1 a k (by omega) (by omega), fun a k _ => f3 a k, fun a ha => f4 a⟩, x2, x3, g2, x4, CX_W hz EX_refl (frWx_g hn f6 (fun a k ha => f1 a k (by omega) (by omega)) (fun a k _ => f2 a k (by omega)) f3 (f4 1703)) (fun q _ => ⟨f1 _ 15 (by omega) (by omega), f1 _ 16 (by omega) (by omega)⟩), hnd.1, (f1 147 18 (by omega) (by omega)).trans hnd.2⟩, fun a h1 h2 => ⟨fun k => f1 a k (by omega) (by omega), fun k => f2 a k (by omega), fun k => f3 a k, f4 a, f5 a, f6 a⟩⟩
end CVT
end
section
/-! what a link leaves, as the class has it -/
/-- members taken for a name were taken -/
def CQs (s : px_TK) : Prop := ∀ q i, s.2.2.2 q = some i → q ∈ s.2.2.1
theorem CQs_tk {s : px_TK} {b : Nat → Nat} {q : Nat} (h : CQs s) : CQs (tkM b q s) := fun q' i hi => List.mem_append_left _ (h q' i hi)
theorem CQs_tf1 {fs : px_FS} {f k : Nat} {p : px_TK × Bool} (h : CQs p.1) : CQs (tf1 fs f k p).1 := by
  unfold tf1
  split
  · exact h
  · split
    · exact h
    · rename_i y hy
      split
      · exact h
      · split
        · exact h
        · rename_i i hi
          intro q' i' he
          have he : (if q' = 8 * f + k then some i else p.1.2.2.2 q') = some i' := he
          show q' ∈ p.1.2.2.1 ++ [8 * f + k]
          by_cases c : q' = 8 * f + k
          · exact List.mem_append_right _ (List.mem_singleton.mpr c)
          · rw [if_neg c] at he
            exact List.mem_append_left _ (h q' i' he)
theorem CQs_tfL {fs : px_FS} {f c : Nat} {s : px_TK} (h : CQs s) : CQs (tfL fs f c s) := by
  unfold tfL
  refine whl_inv (st := tfS) (g := rdF fs f) (P := CQs) (fun s hs => ?_) c s h
  unfold rdF
  exact itr_inv (g := tf1 fs f) (P := fun p : px_TK × Bool => CQs p.1) (a := 0) (e := 8) (fun k p _ _ hp => CQs_tf1 hp) 8 0 (s, false) (Nat.le_refl _) (Nat.le_refl _) hs
theorem CQs_ta1 {fs : px_FS} {f : Nat} {s : px_TK} (h : CQs s) : CQs (ta1 fs f s) := by
  unfold ta1
  split
  · exact h
  · split
    · exact h
    · split
      · exact CQs_tfL h
      · exact CQs_tk h
theorem CQs_tas {fs : px_FS} : ∀ (c f : Nat) (s : px_TK), CQs s → CQs (itr (ta1 fs) f c s) := by
  intro c
  induction c with
  | zero => intro f s h; exact h
  | succ c ih =>
    intro f s h
    rw [itr_s]
    exact ih (f + 1) _ (CQs_ta1 h)
theorem CQs_taL {fs : px_FS} {xs : px_NL} {od : List Nat} : CQs (taL fs xs od) := CQs_tas 8 0 _ (fun q i h => by cases h)
def pg0 : px_PG := (0, (fun _ => 0), none)
def na0 : px_NA := (fun _ => 0, fun _ => false, [], fun _ _ => false, 0, 0, pg0, 0, 0, 0, pg0, 0, 0, 0, pg0, pg0, pg0, 0, pg0, pg0, 0)
/-- what a link left -/
def lnY (fs : px_FS) (s : px_TK) (ll : List Nat) (ad : Nat → Nat) (NA : px_NA) : px_Y := ((fun q => decide (q ∈ s.2.2.1), vFe NA.2.2.2.2, NA.2.1), fun q => (s.2.2.2 q).bind (fun i => (s.1.2.1.map Prod.fst)[i]?), ll.map (fun x => (tQf s.2.2.1 (x / 24) / 8, tQf s.2.2.1 (x / 24) % 8, x % 24, oG (tB fs s.2.2.1 (x / 24)) (x % 24), oZ (tB fs s.2.2.1 (x / 24)) (x % 24), ad x)), (xsN s).mapIdx (fun j x => (x.1, NA.1 j)), s.1.2.2.1)
theorem mI_fst (l : px_NL) (NA : Nat → Int64) : (l.mapIdx (fun j x => (x.1, NA j))).map Prod.fst = l.map Prod.fst := by
  apply List.ext_getElem?
  intro i
  rw [List.getElem?_map, List.getElem?_mapIdx, List.getElem?_map]
  cases l[i]? <;> rfl
section CXL
variable {sk : Nat → Nat × Nat × Nat} {L : Nat} {own : Nat → Nat × Nat} {τ : px_TT} {fs : px_FS} {s : px_TK} {gs : List (List Nat × Int64)} {ws : List (List Nat)} {ST rn : Nat → Bool} {rc : Bool} {B : Nat → Nat} {a : Nat}
theorem CX_link (es : s = taL fs (xs0 gs ws) (od0 gs)) (ha : a ≤ 4) (hT : TKe sk L own τ fs s (xsN s) ST rn) (hc : ∀ q, q < 64 → CC2 τ fs s q) (hk : a = 0 → CKY fs s rc B τ) (hnt : ∀ w, w ∈ s.1.2.1.map Prod.fst → nT w) : ∃ ll ad NA, CX sk L τ fs (nI a) (lnY fs s ll ad NA) ∧ (a = 0 → lnX fs s rc B ll ad NA) := by
  have hQ : CQs s := by rw [es]; exact CQs_taL
  have hBK := hT.2.2.2.2.1.1
  have hm : ∀ ll ad NA, CXm τ fs (lnY fs s ll ad NA).1.1 (lnY fs s ll ad NA).2.1 := fun ll ad NA q hq => by
    obtain ⟨h15, h16n, h16⟩ := hc q hq
    refine ⟨h15, fun e => ?_, fun w e => ?_, fun c => ?_⟩
    · have e : (s.2.2.2 q).bind (fun i => (s.1.2.1.map Prod.fst)[i]?) = none := e
      cases ei : s.2.2.2 q with
      | none => exact h16n ei
      | some i =>
        rw [ei] at e
        have e : (s.1.2.1.map Prod.fst)[i]? = none := e
        obtain ⟨o, n, b, j, x1, x2, x3, x4, x5, x6⟩ := h16 i ei
        have u := idx_some x6
        rw [Nat.sub_zero, e] at u
        cases u
    · have e : (s.2.2.2 q).bind (fun i => (s.1.2.1.map Prod.fst)[i]?) = some w := e
      cases ei : s.2.2.2 q with
      | none => rw [ei] at e; cases e
      | some i =>
        rw [ei] at e
        have e : (s.1.2.1.map Prod.fst)[i]? = some w := e
        obtain ⟨o, n, b, j, x1, x2, x3, x4, x5, x6⟩ := h16 i ei
        have u := idx_some x6
        rw [Nat.sub_zero, e] at u
        exact ⟨decide_eq_true (hQ q i ei), o, n, b, j, x1, x2, x3, x4, x5, (Option.some.inj u).symm⟩
    · refine decide_eq_false (fun hmem => ?_)
      obtain ⟨_, o, n, b, hob⟩ := hBK.2.2.2.2.2.2 q hmem
      have := obAt_lt hob
      omega
  by_cases c0 : a = 0
  · obtain ⟨ll, ad, NA, k1, k2, k3, k4, k5, k6⟩ := hk c0
    refine ⟨ll, ad, NA, ⟨⟨hm ll ad NA, fun _ => ⟨⟨?_, ?_, fun i p hp => ?_⟩, ?_⟩⟩, fun _ => k6⟩, fun _ => k1⟩
    · show fI τ 1700 11 = nI (List.map _ ll).length
      rw [List.length_map]
      exact k2.1
    · show (List.map _ ll).length ≤ 1536
      rw [List.length_map]
      exact k3.1
    · have hp : (ll.map (fun x => (tQf s.2.2.1 (x / 24) / 8, tQf s.2.2.1 (x / 24) % 8, x % 24, oG (tB fs s.2.2.1 (x / 24)) (x % 24), oZ (tB fs s.2.2.1 (x / 24)) (x % 24), ad x)))[i]? = some p := hp
      rw [List.getElem?_map] at hp
      cases ex : ll[i]? with
      | none => rw [ex] at hp; cases hp
      | some x =>
        rw [ex] at hp
        have hp : (tQf s.2.2.1 (x / 24) / 8, tQf s.2.2.1 (x / 24) % 8, x % 24, oG (tB fs s.2.2.1 (x / 24)) (x % 24), oZ (tB fs s.2.2.1 (x / 24)) (x % 24), ad x) = p := Option.some.inj hp
        have hx := List.mem_of_getElem? ex
        obtain ⟨x1, x2⟩ := k3.2 x hx
        have ht : x / 24 < s.2.2.1.length := by omega
        obtain ⟨q, hq⟩ : ∃ q, s.2.2.1[x / 24]? = some q := ⟨_, List.getElem?_eq_getElem ht⟩
        have eQ : tQf s.2.2.1 (x / 24) = q := by unfold tQf; rw [List.getD_eq_getElem?_getD, hq]; rfl
        obtain ⟨r1, _, _⟩ := hT.2.2.2.1.2.2.2 (x / 24) q hq
        obtain ⟨⟨p0, p1, p2⟩, p3, p4, p8, p9, p5, p10⟩ := r1 (x % 24) (by omega)
        rw [show 152 + (24 * (x / 24) + x % 24) = 152 + x by omega] at p1 p2 p3 p4 p5
        have hT64 := BK_T (s := s) hBK
        rw [eQ] at hp
        rw [← hp]
        have hq64 := (hBK.2.2.2.2.2.2 q (List.mem_of_getElem? hq)).1
        obtain ⟨_, _, _, _, _, he, _⟩ := TKe_ob hT ht
        have hk := (Bool.and_eq_true _ _).mp x2
        have hz := (eObj_a he (of_decide_eq_true hk.1) hk.2).1
        have hg : oG (tB fs s.2.2.1 (x / 24)) (x % 24) ≤ 5 := by unfold oG; repeat (first | omega | split)
        refine ⟨⟨(show q / 8 < 10 by omega), (show q % 8 < 10 by omega), (show x % 24 < 24 by omega), (show oG (tB fs s.2.2.1 (x / 24)) (x % 24) < 10 from Nat.lt_of_le_of_lt hg (by decide)), hz⟩, x, by omega, k2.2 i x ex, p1, p2, p3, ?_, (p5 x2).1, k4 x hx⟩
        rw [p4, if_pos x2]
    · have C := hT.2.2.2.1.2.1
      refine ⟨⟨?_, fun w hw => ?_⟩, fun i x hx => ?_, C.2.2.1, fun i d hd => ?_⟩
      · show isNs sk L τ 148 149 4128 (((xsN s).mapIdx (fun j x => (x.1, NA.1 j))).map Prod.fst) (pN τ 149)
        rw [mI_fst]
        exact C.1
      · have hw : w ∈ ((xsN s).mapIdx (fun j x => (x.1, NA.1 j))).map Prod.fst := hw
        rw [mI_fst, xsN_fst] at hw
        exact hnt w hw
      · have hx : ((xsN s).mapIdx (fun j x => (x.1, NA.1 j)))[i]? = some x := hx
        rw [List.getElem?_mapIdx] at hx
        cases ey : (xsN s)[i]? with
        | none => rw [ey] at hx; cases hx
        | some y =>
          rw [ey] at hx
          have hx := Option.some.inj hx
          rw [← hx]
          exact k5 i (List.getElem?_eq_some_iff.mp ey).1
      · obtain ⟨d1, d2⟩ := C.2.2.2 i d hd
        refine ⟨?_, d2⟩
        show d < ((xsN s).mapIdx (fun j x => (x.1, NA.1 j))).length
        rw [List.length_mapIdx]
        exact d1
  · exact ⟨[], fun _ => 0, na0, ⟨⟨hm _ _ _, fun h0 => absurd ((nI_eq (b := 0) (by omega) (by decide)).mp h0) c0⟩, fun h0 => absurd ((nI_eq (b := 0) (by omega) (by decide)).mp h0) c0⟩, fun h => absurd h c0⟩
end CXL
end
section
/-! the class's calls that tell names, link or merge keep what holds between calls -/
section CVL
variable {F : Nat} {c : px_CT} {sk sk' : Nat → Nat × Nat × Nat} {L L' : Nat} {own : Nat → Nat × Nat} {τ τ' : px_TT} {fs : List (Nat × (Nat → Nat))} {gs : List (List Nat × Int64)} {ws : List (List Nat)} {n : Nat} {b : Nat → Nat} {w : Int32} {Y : px_Y}
theorem v_readTapeName (hF : 65540 < F) (h : CV sk L own τ fs gs ws n b w Y) : ∃ τ', f_H_readTapeName F c 0 (cH sk L τ) = some (bI (tnm b n), cH sk L τ') ∧ CV sk L own τ' fs gs ws 0 (fun _ => 0) w Y ∧ (tnm b n = true → isNm τ' 146 (tk b 0 n)) ∧ K26 τ τ' := by
  obtain ⟨hS, hR, hn, hf, hg, hw, ht, hr, hz, hnd⟩ := id h
  obtain ⟨τ', e, g1, g2, ⟨f1, f2, f3, f4, f5, f6⟩, g3⟩ := k_readTapeName (F := F) (c := c) hS hR (by omega) ht
  obtain ⟨x1, x2, x3, x4⟩ := CVx (τ' := τ') h f6 (fun a k ha => f1 a k (by omega) (by omega)) (fun a k ha => f2 a k (by omega)) f3 (fun a _ => f4 a)
  refine ⟨τ', e, ⟨hS, g1, x1, CF_mv hf EX_refl ⟨fun a k ha hk => f1 a k (by omega) (by omega), fun a k _ => f3 a k, fun a ha => f4 a⟩, x2, x3, g2, x4, CX_W hz EX_refl (frWx_g hn f6 (fun a k ha => f1 a k (by omega) (by omega)) (fun a k _ => f2 a k (by omega)) f3 (f4 1703)) (fun q _ => ⟨f1 _ 15 (by omega) (by omega), f1 _ 16 (by omega) (by omega)⟩), hnd.1, (f1 147 18 (by omega) (by omega)).trans hnd.2⟩, g3, fun a h1 h2 => ⟨fun k => f1 a k (by omega) (by omega), fun k => f2 a k (by omega), fun k => f3 a k, f4 a, f5 a, f6 a⟩⟩
/-- a name is told: the rest stays -/
theorem CVr_U {own' : Nat → Nat × Nat} {p A i : Nat} (h : CVr sk L τ) (e : EX sk L sk' L') (hn : NP sk L τ own) (hn' : NP sk' L' τ' own') (hA : A = 141 ∨ A = 144) (hp : 1815 ≤ p) (ep : eN τ' A i = some p) (f : frU p τ τ') : CVr sk' L' τ' := by
  obtain ⟨f1, f2, f3, f4, f5, f6⟩ := f
  refine CVr_fx h e (fun a k ha => f1 a k (by omega) (by omega) (by omega) (by omega) (by omega)) (fun k => f2 1696 k (by omega) (by omega)) (fun a k ha => f3 a k (by omega)) (fun a _ => f4 a) (fun a ha => f6 a (by omega) (by omega)) (fun d q hq => ?_)
  have hq1 := (hn 149 d q (Or.inr (Or.inr rfl)) hq).1
  have hq' : eN τ' 149 d = some q := by rw [f6 149 (by decide) (by decide)]; exact hq
  have hne : q ≠ p := NP_ne hn' (Or.inr (Or.inr rfl)) (by omega) hq' ep (by omega)
  exact ⟨f1 q 5 hne (by omega) (by omega) (by omega) (by omega), f3 q 6 hne⟩
theorem v_give {v : Int64} {k : Nat} (hF : 65540 < F) (h : CV sk L own τ fs gs ws n b w Y) (hr : RMk sk L (k + 1)) (hz0 : gcd' b n (gs.map Prod.fst) = 0) : ∃ sk' L' τ' own', f_H_give F c 0 v (cH sk L τ) = some (nI (gs.length + 1), cH sk' L' τ') ∧ EX sk L sk' L' ∧ RMk sk' L' k ∧ CV sk' L' own' τ' fs (gs ++ [(tk b 0 n, v)]) ws 0 (fun _ => 0) w Y ∧ K26 τ τ' := by
  obtain ⟨hS, hR, hn, hf, hg, hw, ht, hrr, hz, hnd⟩ := id h
  have hz1 := (gcd_0 hz0).2.2
  obtain ⟨sk', L', τ', own', p, e, a1, a2, a3, a4, a5, a6, a7, a8, a9, a10, a11, a12⟩ := k_give (F := F) (c := c) (v := v) hS hR (by omega) ht hf hn hg hw hr hz0
  refine ⟨sk', L', τ', own', e, a1, a2, ⟨a3, a4, a7, a6, a8, a9, a5, CVr_U hrr a1 hn a7 (Or.inl rfl) a10 a11 a12, CX_W hz a1 (frWx_U hn a7 (Or.inl rfl) a10 a11 a12) (fun q _ => ⟨a12.1 _ 15 (by omega) (by omega) (by omega) (by omega) (by omega), a12.1 _ 16 (by omega) (by omega) (by omega) (by omega) (by omega)⟩), ?_, (a12.1 147 18 (by omega) (by omega) (by omega) (by omega) (by omega)).trans hnd.2⟩, fun a h1 h2 => ⟨fun k => a12.1 a k (by omega) (by omega) (by omega) (by omega) (by omega), fun k => a12.2.1 a k (by omega) (by omega), fun k => a12.2.2.1 a k (by omega), a12.2.2.2.1 a, a12.2.2.2.2.1 a, a12.2.2.2.2.2 a (by omega) (by omega)⟩⟩
  refine ⟨?_, fun w hw => ?_, hnd.1.2.2⟩
  rotate_left
  · rw [List.map_append, List.map_cons, List.map_nil] at hw
    rcases List.mem_append.mp hw with e | e
    · exact hnd.1.2.1 w e
    · rw [List.mem_singleton.mp e]; exact nT_tnm.mp (gcd_0 hz0).1
  rw [List.map_append, List.map_cons, List.map_nil]
  refine List.nodup_append.mpr ⟨hnd.1.1, List.nodup_cons.mpr ⟨List.not_mem_nil, List.nodup_nil⟩, fun x hx y hy e => ?_⟩
  rw [List.mem_singleton] at hy
  subst hy
  subst e
  have hs := idx_iff.mpr hx
  rw [hz1] at hs
  cases hs
theorem v_wish {k : Nat} (hF : 65540 < F) (h : CV sk L own τ fs gs ws n b w Y) (hr : RMk sk L (k + 1)) (hz0 : gcd' b n ws = 0) : ∃ sk' L' τ' own', f_H_wish F c 0 (cH sk L τ) = some (nI (ws.length + 1), cH sk' L' τ') ∧ EX sk L sk' L' ∧ RMk sk' L' k ∧ CV sk' L' own' τ' fs gs (ws ++ [tk b 0 n]) 0 (fun _ => 0) w Y ∧ K26 τ τ' := by
  obtain ⟨hS, hR, hn, hf, hg, hw, ht, hrr, hz, hnd⟩ := id h
  obtain ⟨sk', L', τ', own', p, e, a1, a2, a3, a4, a5, a6, a7, a8, a9, a10, a11, a12⟩ := k_wish (F := F) (c := c) hS hR (by omega) ht hf hn hg hw hr hz0
  refine ⟨sk', L', τ', own', e, a1, a2, ⟨a3, a4, a7, a6, a8, a9, a5, CVr_U hrr a1 hn a7 (Or.inr rfl) a10 a11 a12, CX_W hz a1 (frWx_U hn a7 (Or.inr rfl) a10 a11 a12) (fun q _ => ⟨a12.1 _ 15 (by omega) (by omega) (by omega) (by omega) (by omega), a12.1 _ 16 (by omega) (by omega) (by omega) (by omega) (by omega)⟩), ⟨hnd.1.1, hnd.1.2.1, fun w hw => by
      rcases List.mem_append.mp hw with e | e
      · exact hnd.1.2.2 w e
      · rw [List.mem_singleton.mp e]; exact nT_tnm.mp (gcd_0 hz0).1⟩, (a12.1 147 18 (by omega) (by omega) (by omega) (by omega) (by omega)).trans hnd.2⟩, fun a h1 h2 => ⟨fun k => a12.1 a k (by omega) (by omega) (by omega) (by omega) (by omega), fun k => a12.2.1 a k (by omega) (by omega), fun k => a12.2.2.1 a k (by omega), a12.2.2.2.1 a, a12.2.2.2.2.1 a, a12.2.2.2.2.2 a (by omega) (by omega)⟩⟩
theorem lnR_by {rc : Bool} {B : Nat → Nat} {s : px_TK} {a : Nat} (hf : FSo fs) (hgl : gs.length ≤ 16) (hwl : ws.length ≤ 16) (hk : WK fs s) (hs : s = taL fs (xs0 gs ws) (od0 gs)) : AL (byP s.2.2.1.length (tB fs s.2.2.1) s.2.1.1) (xsN s) := by
  by_cases h0 : s.1.1 = 0
  · obtain ⟨x1, x2, x3, _⟩ := LN_f (fs := fs) (gs := gs) (ws := ws) (s := s) hf hgl hwl hs h0
    exact x3.2.2.1
  · unfold xsN
    rw [if_neg h0]
    exact hk.2.1
theorem v_runLink {k : Nat} {rc : Bool} {B : Nat → Nat} {s : px_TK} {a : Nat} (hF : 65540 < F) (hc : KT c) (h : CV sk L own τ fs gs ws n b w Y) (hm : RMk sk L (k + rmT fs [] + 32)) (hsum : (fs.map Prod.fst).sum ≤ 4096) (hB : BFs fs B) (hln : lnR fs gs ws rc B s a) : ∃ sk' L' τ' own' ST rn ll ad NA, f_H_runLink F c 0 (bI rc) (cH sk L τ) = some (nI a, cH sk' L' τ') ∧ EX sk L sk' L' ∧ RMk sk' L' k ∧ CV sk' L' own' τ' fs gs ws n b (nI a) (lnY fs s ll ad NA) ∧ TKe sk' L' own' τ' fs s (xsN s) ST rn ∧ AL (byP s.2.2.1.length (tB fs s.2.2.1) s.2.1.1) (xsN s) ∧ K26 τ τ' ∧ (a = 0 → lnX fs s rc B ll ad NA) ∧ (rc = false → ∀ x, ST x = (kpB (tB fs s.2.2.1 (x / 24)) (x % 24) && !s.2.1.1 x)) := by
  obtain ⟨hS, hR, hn, hf, hg, hw, ht, ⟨r1, r2, r3, r4, r5, r6⟩, hz, hnd⟩ := id h
  obtain ⟨sk', L', τ', own', ST, rn, e, a1, a2, a3, a4, a5, a6, a7, a8, a9, a10, ⟨g1, g2, g3⟩, a11, a12⟩ := k_runLink (F := F) (c := c) (k := k) hF hc hS hR hn hg hw hf hm hnd.1.1 r1 r2 r4.2 hsum hB hln
  have hgl : gs.length ≤ 16 := by have := hg.1.2.2.2.1; rw [List.length_map] at this; exact this
  have hwl : ws.length ≤ 16 := hw.2.2.2.1
  have hby := lnR_by (rc := rc) (B := B) (a := a) (CF_FSo hf) hgl hwl a3.2.2.2.2.1 hln.1
  obtain ⟨b1, b2, b3, ⟨k1, k2, k3, k4⟩, b5, b6, b7⟩ := id a3
  have hod : ∀ i, i < s.1.2.2.1.length → ∃ d, s.1.2.2.1[i]? = some d := fun i hi => ⟨_, List.getElem?_eq_getElem hi⟩
  have ho : s.1.2.2.1.length ≤ 4128 := by
    have := b5.1.2.2.2.1
    have hT := BK_T (s := s) b5.1
    omega
  have hat : ∀ i, i < (xsN s).length → eN τ' 149 i = some (pN τ' 149 i) := fun i hi => (k2.1.2.2.2.2.2.2 i _ (by rw [List.getElem?_map, List.getElem?_eq_getElem hi]; rfl)).2.1
  obtain ⟨ll, ad, NA, cx1, cx2⟩ := CX_link hln.1 (lnR_le hln a3.2.2.2.2.1.1.1) a3 a10 a11 (by rw [hln.1]; exact nT_taL (CF_FSo hf) hnd.1.2.1 hnd.1.2.2)
  refine ⟨sk', L', τ', own', ST, rn, ll, ad, NA, e, a1, a2, ⟨b1, b2, k1, b3, a4, a5, CTp_SI ht ((g1 1 (Or.inl rfl)).1 1) (g1 2 (Or.inr (Or.inl rfl))).2.2.2.1, ⟨a6, a7, ?_, ⟨⟨_, ho, k2.2.2.1, fun i hi => ?_⟩, a9⟩, ⟨(xsN s).length, ?_, ?_, fun i hi => ?_⟩, _, BK_T (s := s) b5.1, k3⟩, cx1, hnd.1, a8⟩, a3, hby, fun a h1 h2 => g1 a (Or.inr (Or.inr ⟨by omega, by omega⟩)), cx2, a12⟩
  · obtain ⟨⟨m6, h6, e6⟩, m9, h9, e9⟩ := r3
    have w := (g1 1718 (Or.inr (Or.inr ⟨by decide, by decide⟩))).1
    exact ⟨⟨m6, h6, (w 6).trans e6⟩, m9, h9, (w 9).trans e9⟩
  · obtain ⟨d, hd⟩ := hod i hi
    obtain ⟨d1, d2⟩ := k2.2.2.2 i d hd
    exact ⟨_, d2, TKe_Nmo a3 hby d1, d, hat d d1⟩
  · have := k2.1.2.2.2.1; rw [List.length_map] at this; exact this
  · have := k2.1.2.2.2.2.2.1; rw [List.length_map] at this; exact this
  · have hN := TKe_Nmo a3 hby hi
    exact ⟨_, hat i hi, hN.1, hN.2.1⟩
theorem v_link {k : Nat} {rc : Bool} {B : Nat → Nat} {s : px_TK} {a : Nat} (hF : 65540 < F) (hc : KT c) (h : CV sk L own τ fs gs ws n b w Y) (hm : RMk sk L (k + rmT fs [] + 32)) (hsum : (fs.map Prod.fst).sum ≤ 4096) (hB : BFs fs B) (hln : lnR fs gs ws rc B s a) : ∃ sk' L' τ' own' ll ad NA, f_H_link F c 0 (bI rc) (cH sk L τ) = some (nI a, cH sk' L' τ') ∧ EX sk L sk' L' ∧ RMk sk' L' k ∧ CV sk' L' own' τ' fs gs ws n b (nI a) (lnY fs s ll ad NA) ∧ K26 τ τ' ∧ (a = 0 → lnX fs s rc B ll ad NA) := by
  obtain ⟨sk', L', τ', own', ST, rn, ll, ad, NA, e, a1, a2, a3, _, _, a7⟩ := v_runLink (F := F) (c := c) hF hc h hm hsum hB hln
  unfold f_H_link
  rw [c_o (G0 h.1), bs, e, xb_mk]
  exact ⟨sk', L', τ', own', ll, ad, NA, rfl, a1, a2, a3, a7.1, a7.2.1⟩
theorem v_merge {k : Nat} {B : Nat → Nat} {s : px_TK} {a : Nat} (hF : 65540 < F) (hc : KT c) (h : CV sk L own τ fs gs ws n b w Y) (hm : RMk sk L (k + rmT fs [] + 32)) (hsum : (fs.map Prod.fst).sum ≤ 4096) (hB : BFs fs B) (hln : lnR fs gs ws false B s a) : ∃ v sk' L' τ' own' ll ad NA, f_H_merge F c 0 (cH sk L τ) = some (v, cH sk' L' τ') ∧ EX sk L sk' L' ∧ RMk sk' L' k ∧ CV sk' L' own' τ' fs gs ws n b (nI a) (lnY fs s ll ad NA) ∧ K26 τ τ' ∧ (a = 0 → lnX fs s false B ll ad NA) := by
  obtain ⟨sk', L', τ1, own', ST, rn, ll, ad, NA, e, a1, a2, a3, a5, a6, a7, a8, _⟩ := v_runLink (F := F) (c := c) hF hc h hm hsum hB hln
  have h4 := CV_S4 a3
  have hI := SI_self a3
  have h0 := h4.1.1.1
  have h3 : S3 sk' L' own' τ1 fs s (xsN s) ST rn ws := ⟨h4.1, a5, a6, a3.2.2.2.2.2.1⟩
  have key : Sf sk' L' (SI none sk' L' τ1) Any (f_H_merge F c 0 (cH sk L τ)) := by
    unfold f_H_merge
    rw [c_o (G0 h.1), bs, show nI 0 = bI false from rfl, e, xb_mk]
    refine sf_i (fun _ => sf_r any hI) (fun _ => ?_)
    refine sf_gG h0 hI (by decide) (by decide) (by decide) (by decide) (q := 1713) rfl (sx_draft h0 hI (fun r hr => ?_))
    refine sf_o (GS_o h0.1 (by decide) (by decide)) (fun _ => sf_x (sf_merged h3 hc hF hr hI) (fun v τ hv hi => ?_))
    refine sf_i (fun _ => sf_r any hi) (fun _ => ?_)
    exact sf_o (G0 h0.1) (fun _ => sf_x (sf_publish h0 hi) (fun v τ hv hi => sf_r any hi))
  obtain ⟨v, τ', em, _, hJ⟩ := key
  exact ⟨v, sk', L', τ', own', ll, ad, NA, em, a1, a2, CV_SI a3 hJ, K26_trans a7 (K26_Z hJ.1), a8⟩
end CVL
end
section
/-! the reference's safety, step by step; its small calls (steps spelled out by sf/pp.py) -/
def Sm (m : Nat) (h : px_H) (I : px_S → Prop) {α : Type} (V : α → Prop) (o : Option (α × px_H)) : Prop := ∃ v σ, o = some (v, mh m h σ) ∧ V v ∧ I σ
/-- the field whose array stands in the c-th cell -/
def mrc (c : Nat) : Option Nat := mA[c - 1]?
section MSF
variable {m : Nat} {h : px_H} {I I1 : px_S → Prop} {α β : Type} {V : α → Prop} {W : β → Prop} {σ : px_S}
theorem sm_r {v : α} (hv : V v) (hI : I σ) : Sm m h I V (some (v, mh m h σ)) := ⟨v, σ, rfl, hv, hI⟩
theorem sm_z {V : Int32 → Prop} {v : Int32} (hz : isZ v) (hv : V v) (hI : I σ) : Sm m h I V (xz v (mh m h σ)) := by
  obtain ⟨b, rfl⟩ := hz
  exact ⟨bI b, σ, xz_b b _, hv, hI⟩
theorem sm_i {p : Prop} [Decidable p] {x y : Option (α × px_H)} (h1 : p → Sm m h I V x) (h2 : ¬ p → Sm m h I V y) : Sm m h I V (if p then x else y) := by
  by_cases c : p
  · rw [if_pos c]; exact h1 c
  · rw [if_neg c]; exact h2 c
theorem sm_x {o : Option (β × px_H)} {f : β → px_H → Option (α × px_H)} (w : Sm m h I1 W o) (g : ∀ v σ, W v → I1 σ → Sm m h I V (f v (mh m h σ))) : Sm m h I V (xb o f) := by
  obtain ⟨v, σ, e, hw, hI⟩ := w
  rw [e, xb_mk]
  exact g v σ hw hI
theorem sm_o {f : List Value → Option (α × px_H)} (hm : m ≤ h.length) (g : ∀ l, Sm m h I V (f l)) : Sm m h I V ((xo (mh m h σ) 12 m).bind f) := by
  rw [e_o hm, bs]; exact g _
theorem sm_gI {f : Int32 → Option (α × px_H)} {k : Nat} (hm : m ≤ h.length) (hk : (mr k).1 = 0) (g : Sm m h I V (f (gI σ k))) : Sm m h I V ((xgI (mh m h σ) 12 k m).bind f) := by
  rw [e_gI hm hk, bs]; exact g
theorem sm_gJ {f : Int64 → Option (α × px_H)} {k : Nat} (hm : m ≤ h.length) (hk : (mr k).1 = 1) (g : Sm m h I V (f (gJ σ k))) : Sm m h I V ((xgJ (mh m h σ) 12 k m).bind f) := by
  rw [e_gJ hm hk, bs]; exact g
/-- what a field that is an array holds: the cell's number -/
def mrr (k : Nat) : Option Nat := if (mr k).1 = 2 ∨ (mr k).1 = 3 then some (mr k).2.1 else none
theorem sm_gR {f : Nat → Option (α × px_H)} {k c : Nat} (hm : m ≤ h.length) (hk : mrr k = some c) (g : Sm m h I V (f (m + c))) : Sm m h I V ((xgR (mh m h σ) 12 k m).bind f) := by
  unfold mrr at hk
  by_cases c1 : (mr k).1 = 2 ∨ (mr k).1 = 3
  · rw [if_pos c1] at hk
    injection hk with hk
    rw [e_gR hm c1, bs, hk]; exact g
  · rw [if_neg c1] at hk; cases hk
theorem sm_pW {f : px_H → Option (α × px_H)} {k : Nat} {v : Int32} (hm : m ≤ h.length) (hk : (mr k).1 = 0) (hI : I1 (sI σ k v)) (g : ∀ σ, I1 σ → Sm m h I V (f (mh m h σ))) : Sm m h I V ((xpI (mh m h σ) 12 k m v).bind f) := by
  rw [e_pI hm hk, bs]; exact g _ hI
theorem sm_pI {f : px_H → Option (α × px_H)} {k : Nat} {v : Int32} (hm : m ≤ h.length) (hk : (mr k).1 = 0) (hI : I (sI σ k v)) (g : ∀ σ, I σ → Sm m h I V (f (mh m h σ))) : Sm m h I V ((xpI (mh m h σ) 12 k m v).bind f) := sm_pW hm hk hI g
theorem sm_aI {f : Int32 → Option (α × px_H)} {c k t n : Nat} {i : Int32} (hm : m ≤ h.length) (_ : mrc c = some k) (hr : mr k = (2, c, t, n)) (hi : ∃ j, j < n ∧ i = nI j) (g : ∀ j, j < n → i = nI j → Sm m h I V (f (gA σ k j))) : Sm m h I V ((xaI (mh m h σ) t (m + c) i).bind f) := by
  obtain ⟨j, hj, rfl⟩ := hi
  have e := e_aI (σ := σ) (k := k) (i := j) hm (by rw [hr]) (by rw [hr]; exact hj)
  rw [hr] at e
  rw [e, bs]; exact g j hj rfl
theorem sm_aJ {f : Int64 → Option (α × px_H)} {c k t n : Nat} {i : Int32} (hm : m ≤ h.length) (_ : mrc c = some k) (hr : mr k = (3, c, t, n)) (hi : ∃ j, j < n ∧ i = nI j) (g : ∀ j, j < n → i = nI j → Sm m h I V (f (gB σ k j))) : Sm m h I V ((xaJ (mh m h σ) t (m + c) i).bind f) := by
  obtain ⟨j, hj, rfl⟩ := hi
  have e := e_aJ (σ := σ) (k := k) (i := j) hm (by rw [hr]) (by rw [hr]; exact hj)
  rw [hr] at e
  rw [e, bs]; exact g j hj rfl
theorem sm_sW {f : px_H → Option (α × px_H)} {c k t n : Nat} {i v : Int32} (hm : m ≤ h.length) (_ : mrc c = some k) (hr : mr k = (2, c, t, n)) (hi : ∃ j, j < n ∧ i = nI j) (hI : ∀ j, j < n → i = nI j → I1 (sA σ k (upd (gA σ k) j v))) (g : ∀ σ, I1 σ → Sm m h I V (f (mh m h σ))) : Sm m h I V ((xsI (mh m h σ) t (m + c) i v).bind f) := by
  obtain ⟨j, hj, rfl⟩ := hi
  have e := e_sI (σ := σ) (k := k) (i := j) hm (by rw [hr]) (by rw [hr]; exact hj) v
  rw [hr] at e
  rw [e, bs]; exact g _ (hI j hj rfl)
theorem sm_sI {f : px_H → Option (α × px_H)} {c k t n : Nat} {i v : Int32} (hm : m ≤ h.length) (hk : mrc c = some k) (hr : mr k = (2, c, t, n)) (hi : ∃ j, j < n ∧ i = nI j) (hI : ∀ j, j < n → i = nI j → I (sA σ k (upd (gA σ k) j v))) (g : ∀ σ, I σ → Sm m h I V (f (mh m h σ))) : Sm m h I V ((xsI (mh m h σ) t (m + c) i v).bind f) := sm_sW hm hk hr hi hI g
theorem sm_of {o : Option (β × px_H)} {f : β → px_H → Option (α × px_H)} (w : ∃ v, o = some (v, mh m h σ)) (g : ∀ v, Sm m h I V (f v (mh m h σ))) : Sm m h I V (xb o f) := by
  obtain ⟨v, e⟩ := w
  rw [e, xb_mk]; exact g v
end MSF
/-! what holds of the reference between two calls, besides files, names told, tape -/
/-- the memory's rows -/
def MV (σ : px_S) : Prop := ∃ r, r ≤ 8 ∧ gI σ 102 = nI r ∧ ∀ i, i < r → ∃ s p fz, gB σ 107 i = lN s ∧ s ≤ 2 ^ 48 ∧ gB σ 106 i = lN p ∧ gB σ 108 i = lN fz ∧ p + fz ≤ 65536
section MSC
variable {F m : Nat} {h : px_H} {σ0 σ : px_S}
theorem FR0 {v : Int32} (hf : FR [0] [] [] [] σ0 σ) : FR [0] [] [] [] σ0 (sI σ 0 v) := FR_trans hf (FR_I σ 0 v)
theorem FR0_I {k : Nat} (hf : FR [0] [] [] [] σ0 σ) (hk : k ≠ 0) : gI σ k = gI σ0 k := hf.1 k (by simpa using hk)
theorem sm_thr {a b : Int32} (hm : m ≤ h.length) (hf : FR [0] [] [] [] σ0 σ) : Sm m h (FR [0] [] [] [] σ0) isZ (f_M_throwing F m a b (mh m h σ)) := by
  unfold f_M_throwing f_M_throwing_18 f_M_throwing_33
  repeat' (first | ((with_reducible refine sm_pI hm (by with_unfolding_all exact rfl) ?_ (fun σ hi => ?_)); exact FR0 hf) | exact absurd (show nI 0 = 0 from rfl) (by assumption) | exact absurd (show nI 1 = 0 by assumption) (by decide) | ((with_reducible refine sm_i (fun hc => ?_) (fun hc => ?_))) | ((with_reducible refine sm_gI hm (by with_unfolding_all exact rfl) ?_)) | ((with_reducible refine sm_gJ hm (by with_unfolding_all exact rfl) ?_)) | ((with_reducible refine sm_gR hm (by with_unfolding_all exact rfl) ?_)) | ((with_reducible refine sm_o hm (fun l => ?_))) | ((with_reducible refine sm_r ?_ ?_); (first | exact any | assumption | first | exact ⟨false, rfl⟩ | exact ⟨true, rfl⟩ | assumption); assumption) | ((with_reducible refine sm_z ?_ ?_ ?_); (first | exact ⟨false, rfl⟩ | exact ⟨true, rfl⟩ | assumption); (first | exact any | exact ⟨false, rfl⟩ | exact ⟨true, rfl⟩ | assumption); assumption))
theorem MV_0 (hv : MV σ0) (hf : FR [0] [] [] [] σ0 σ) : MV σ := by
  obtain ⟨r, hr, er, hx⟩ := hv
  exact ⟨r, hr, (FR0_I hf (by decide)).trans er, fun i hi => by rw [hf.2.2.2 106 (by decide), hf.2.2.2 107 (by decide), hf.2.2.2 108 (by decide)]; exact hx i hi⟩
/-- the row of an address: none, or one that has it -/
theorem sm_row_2 {x : Int64} {r : Nat} (hm : m ≤ h.length) (hr : r ≤ 8) (er : gI σ 102 = nI r) : ∀ (d j f : Nat), j + d = r → d < f → Sm m h (fun σ' => σ' = σ) (fun v => v = Int32.ofInt (-1) ∨ ∃ i, i < r ∧ v = nI i ∧ ¬ x < gB σ 107 i) (f_M_rowOf_2 F f m x (nI j) (mh m h σ)) := by
  intro d
  induction d with
  | zero =>
    intro j f hj hf
    obtain ⟨f, rfl⟩ : ∃ y, f = y + 1 := ⟨f - 1, by omega⟩
    unfold f_M_rowOf_2 f_M_rowOf_47
    repeat' (first | (exact sm_r (Or.inl rfl) rfl) | (exact absurd (show gI σ 102 ≤ nI j by rw [er]; exact nI_le (by omega) (by omega)) (by assumption)) | exact absurd (show nI 0 = 0 from rfl) (by assumption) | exact absurd (show nI 1 = 0 by assumption) (by decide) | ((with_reducible refine sm_i (fun hc => ?_) (fun hc => ?_))) | ((with_reducible refine sm_gI hm (by with_unfolding_all exact rfl) ?_)) | ((with_reducible refine sm_gJ hm (by with_unfolding_all exact rfl) ?_)) | ((with_reducible refine sm_gR hm (by with_unfolding_all exact rfl) ?_)) | ((with_reducible refine sm_o hm (fun l => ?_))) | ((with_reducible refine sm_r ?_ ?_); (first | exact any | assumption | first | exact ⟨false, rfl⟩ | exact ⟨true, rfl⟩ | assumption); assumption) | ((with_reducible refine sm_z ?_ ?_ ?_); (first | exact ⟨false, rfl⟩ | exact ⟨true, rfl⟩ | assumption); (first | exact any | exact ⟨false, rfl⟩ | exact ⟨true, rfl⟩ | assumption); assumption))
  | succ d ih =>
    intro j f hj hf
    obtain ⟨f, rfl⟩ : ∃ y, f = y + 1 := ⟨f - 1, by omega⟩
    unfold f_M_rowOf_2 f_M_rowOf_47 f_M_rowOf_39 f_M_rowOf_41
    rw [nI_add]
    refine sm_gI hm rfl (sm_i (fun _ => sm_r (Or.inl rfl) rfl) (fun _ => ?_))
    refine sm_gR hm (c := 71) rfl (sm_aJ hm (k := 107) (n := 8) rfl rfl ⟨j, by omega, rfl⟩ (fun j' hj' ej => ?_))
    have e : j' = j := ((nI_eq (show j < 2 ^ 31 by omega) (show j' < 2 ^ 31 by omega)).mp ej).symm
    subst e
    refine sm_i (fun _ => ih _ _ (by omega) (by omega)) (fun hc => ?_)
    refine sm_gR hm (c := 71) rfl (sm_aJ hm (k := 107) (n := 8) rfl rfl ⟨j', by omega, rfl⟩ (fun _ _ _ => ?_))
    refine sm_gR hm (c := 73) rfl (sm_aJ hm (k := 109) (n := 8) rfl rfl ⟨j', by omega, rfl⟩ (fun _ _ _ => ?_))
    exact sm_i (fun _ => ih _ _ (by omega) (by omega)) (fun _ => sm_r (Or.inr ⟨j', by omega, rfl, hc⟩) rfl)
theorem sm_t0 {I : px_S → Prop} {α : Type} {V : α → Prop} {f : Int32 → px_H → Option (α × px_H)} (hm : m ≤ h.length) (hf : FR [0] [] [] [] σ0 σ) (g : ∀ σ, FR [0] [] [] [] σ0 σ → Sm m h I V (f (nI 0) (mh m h σ))) : Sm m h I V (xb (f_M_throwing F m (nI 0) (nI 0) (mh m h σ)) f) := by
  rw [show f_M_throwing F m (nI 0) (nI 0) (mh m h σ) = _ from q_throwing hm false false, xb_mk]; exact g _ (FR0 hf)
theorem sm_tA {I : px_S → Prop} {α : Type} {V : α → Prop} {f : Int32 → px_H → Option (α × px_H)} (hm : m ≤ h.length) (hf : FR [0] [] [] [] σ0 σ) (g : ∀ σ, FR [0] [] [] [] σ0 σ → Sm m h I V (f (nI 1) (mh m h σ))) : Sm m h I V (xb (f_M_throwing F m (nI 1) (nI 0) (mh m h σ)) f) := by
  rw [show f_M_throwing F m (nI 1) (nI 0) (mh m h σ) = _ from q_throwing hm true false, xb_mk]; exact g _ (FR0 hf)
theorem sm_tB {I : px_S → Prop} {α : Type} {V : α → Prop} {f : Int32 → px_H → Option (α × px_H)} (hm : m ≤ h.length) (hf : FR [0] [] [] [] σ0 σ) (g : ∀ σ, FR [0] [] [] [] σ0 σ → Sm m h I V (f (nI 1) (mh m h σ))) : Sm m h I V (xb (f_M_throwing F m (nI 0) (nI 1) (mh m h σ)) f) := by
  rw [show f_M_throwing F m (nI 0) (nI 1) (mh m h σ) = _ from q_throwing hm false true, xb_mk]; exact g _ (FR0 hf)
theorem sm_tC {I : px_S → Prop} {α : Type} {V : α → Prop} {f : Int32 → px_H → Option (α × px_H)} (hm : m ≤ h.length) (hf : FR [0] [] [] [] σ0 σ) (g : ∀ σ, FR [0] [] [] [] σ0 σ → Sm m h I V (f (nI 1) (mh m h σ))) : Sm m h I V (xb (f_M_throwing F m (nI 1) (nI 1) (mh m h σ)) f) := by
  rw [show f_M_throwing F m (nI 1) (nI 1) (mh m h σ) = _ from q_throwing hm true true, xb_mk]; exact g _ (FR0 hf)
theorem sm_look {a1 : Int32} (hm : m ≤ h.length) (hf : FR [0] [] [] [] σ0 σ) : Sm m h (FR [0] [] [] [] σ0) Any (f_M_look F m a1 (mh m h σ)) := by
  unfold f_M_look f_M_look_11 f_M_look_16 f_M_look_173 f_M_look_224
  repeat' (first | exact absurd (show nI 0 = 0 from rfl) (by assumption) | exact absurd (show nI 1 = 0 by assumption) (by decide) | ((with_reducible refine sm_i (fun hc => ?_) (fun hc => ?_))) | ((with_reducible refine sm_gI hm (by with_unfolding_all exact rfl) ?_)) | ((with_reducible refine sm_gJ hm (by with_unfolding_all exact rfl) ?_)) | ((with_reducible refine sm_gR hm (by with_unfolding_all exact rfl) ?_)) | ((with_reducible refine sm_o hm (fun l => ?_))) | ((with_reducible refine sm_r ?_ ?_); (first | exact any | assumption | first | exact ⟨false, rfl⟩ | exact ⟨true, rfl⟩ | assumption); assumption) | ((with_reducible refine sm_z ?_ ?_ ?_); (first | exact ⟨false, rfl⟩ | exact ⟨true, rfl⟩ | assumption); (first | exact any | exact ⟨false, rfl⟩ | exact ⟨true, rfl⟩ | assumption); assumption) | ((with_reducible refine sm_t0 hm (by assumption) (fun σ hi => ?_))) | ((with_reducible refine sm_tA hm (by assumption) (fun σ hi => ?_))) | ((with_reducible refine sm_tB hm (by assumption) (fun σ hi => ?_))) | ((with_reducible refine sm_tC hm (by assumption) (fun σ hi => ?_))))
theorem ixL {x : Int32} {n N : Nat} (h1 : ¬ x < 0) (h2 : x < nI n) (hn : n ≤ N) : ∃ j, j < N ∧ x = nI j := by
  obtain ⟨j, hj, rfl⟩ := nI_of h1
  have : ¬ n ≤ j := fun w => absurd h2 (nI_nlt w hj)
  exact ⟨j, by omega, rfl⟩
theorem ixG {x : Int32} {n N : Nat} (h1 : ¬ x < 0) (h2 : ¬ nI n ≤ x) (hn : n ≤ N) : ∃ j, j < N ∧ x = nI j := by
  obtain ⟨j, hj, rfl⟩ := nI_of h1
  have : ¬ n ≤ j := fun w => h2 (nI_le w hj)
  exact ⟨j, by omega, rfl⟩
theorem sm_place {a1 : Int32} {n : Nat} (hm : m ≤ h.length) (hn : n ≤ 1536) (en : gI σ0 50 = nI n) (hf : FR [0] [] [] [] σ0 σ) : Sm m h (FR [0] [] [] [] σ0) Any (f_M_place F m a1 (mh m h σ)) := by
  have e50 : gI σ 50 = nI n := (FR0_I hf (by decide)).trans en
  unfold f_M_place f_M_place_13 f_M_place_25 f_M_place_30
  repeat' (first | ((with_reducible refine sm_aJ hm (by with_unfolding_all exact rfl) (by with_unfolding_all exact rfl) ?_ (fun j hj ej => ?_)); exact ixL (by assumption) (by rw [← e50]; assumption) hn) | exact absurd (show nI 0 = 0 from rfl) (by assumption) | exact absurd (show nI 1 = 0 by assumption) (by decide) | ((with_reducible refine sm_i (fun hc => ?_) (fun hc => ?_))) | ((with_reducible refine sm_gI hm (by with_unfolding_all exact rfl) ?_)) | ((with_reducible refine sm_gJ hm (by with_unfolding_all exact rfl) ?_)) | ((with_reducible refine sm_gR hm (by with_unfolding_all exact rfl) ?_)) | ((with_reducible refine sm_o hm (fun l => ?_))) | ((with_reducible refine sm_r ?_ ?_); (first | exact any | assumption | first | exact ⟨false, rfl⟩ | exact ⟨true, rfl⟩ | assumption); assumption) | ((with_reducible refine sm_z ?_ ?_ ?_); (first | exact ⟨false, rfl⟩ | exact ⟨true, rfl⟩ | assumption); (first | exact any | exact ⟨false, rfl⟩ | exact ⟨true, rfl⟩ | assumption); assumption) | ((with_reducible refine sm_t0 hm (by assumption) (fun σ hi => ?_))) | ((with_reducible refine sm_tA hm (by assumption) (fun σ hi => ?_))) | ((with_reducible refine sm_tB hm (by assumption) (fun σ hi => ?_))) | ((with_reducible refine sm_tC hm (by assumption) (fun σ hi => ?_))))
theorem sm_section {a1 a2 : Int32} {n : Nat} (hm : m ≤ h.length) (hn : n ≤ 1536) (en : gI σ0 50 = nI n) (hf : FR [0] [] [] [] σ0 σ) : Sm m h (FR [0] [] [] [] σ0) Any (f_M_section F m a1 a2 (mh m h σ)) := by
  have e50 : gI σ 50 = nI n := (FR0_I hf (by decide)).trans en
  unfold f_M_section f_M_section_13 f_M_section_34 f_M_section_39 f_M_section_108
  repeat' (first | ((with_reducible refine sm_aI hm (by with_unfolding_all exact rfl) (by with_unfolding_all exact rfl) ?_ (fun j hj ej => ?_)); exact ixG (by assumption) (by rw [← e50]; assumption) hn) | exact absurd (show nI 0 = 0 from rfl) (by assumption) | exact absurd (show nI 1 = 0 by assumption) (by decide) | ((with_reducible refine sm_i (fun hc => ?_) (fun hc => ?_))) | ((with_reducible refine sm_gI hm (by with_unfolding_all exact rfl) ?_)) | ((with_reducible refine sm_gJ hm (by with_unfolding_all exact rfl) ?_)) | ((with_reducible refine sm_gR hm (by with_unfolding_all exact rfl) ?_)) | ((with_reducible refine sm_o hm (fun l => ?_))) | ((with_reducible refine sm_r ?_ ?_); (first | exact any | assumption | first | exact ⟨false, rfl⟩ | exact ⟨true, rfl⟩ | assumption); assumption) | ((with_reducible refine sm_z ?_ ?_ ?_); (first | exact ⟨false, rfl⟩ | exact ⟨true, rfl⟩ | assumption); (first | exact any | exact ⟨false, rfl⟩ | exact ⟨true, rfl⟩ | assumption); assumption) | ((with_reducible refine sm_t0 hm (by assumption) (fun σ hi => ?_))) | ((with_reducible refine sm_tA hm (by assumption) (fun σ hi => ?_))) | ((with_reducible refine sm_tB hm (by assumption) (fun σ hi => ?_))) | ((with_reducible refine sm_tC hm (by assumption) (fun σ hi => ?_))))
theorem sm_flags {x : Int64} (hm : m ≤ h.length) (hF : 8 < F) (hv : MV σ0) (hf : FR [0] [] [] [] σ0 σ) : Sm m h (FR [0] [] [] [] σ0) Any (f_M_flags F m x (mh m h σ)) := by
  unfold f_M_flags f_M_flags_27
  refine sm_pI hm rfl (FR0 hf) (fun σ hi => ?_)
  obtain ⟨r, hr, er, hx⟩ := MV_0 hv hi
  refine sm_o hm (fun _ => sm_x (sm_row_2 hm hr er r 0 F (Nat.zero_add _) (by omega)) ?_)
  rintro v _ hv rfl
  refine sm_i (fun hc => ?_) (fun hc => sm_r any hi)
  rcases hv with rfl | ⟨i, hi8, rfl, _⟩
  · exact absurd hc (by decide)
  · exact sm_gR hm (c := 69) rfl (sm_aJ hm (k := 105) (n := 8) rfl rfl ⟨i, by omega, rfl⟩ (fun _ _ _ => sm_r any hi))
theorem sm_out_33 {j n : Nat} (hm : m ≤ h.length) (hn : n ≤ 65536) (hj : j < n) (e4 : gI σ 4 = nI n) (hf : FR [0] [] [] [] σ0 σ) : ∀ (d f : Nat) (v : Int64), d ≤ 8 → d < f → Sm m h (FR [0] [] [] [] σ0) Any (f_M_out_33 F f m (nI j) v (nI d - nI 1) (mh m h σ)) := by
  intro d
  induction d with
  | zero =>
    intro f v hd hf'
    obtain ⟨f, rfl⟩ : ∃ y, f = y + 1 := ⟨f - 1, by omega⟩
    unfold f_M_out_33 f_M_out_79
    rw [if_pos (by decide)]
    exact sm_r any hf
  | succ d ih =>
    intro f v hd hf'
    obtain ⟨f, rfl⟩ : ∃ y, f = y + 1 := ⟨f - 1, by omega⟩
    rw [pk_sub (by omega), Nat.add_sub_cancel]
    unfold f_M_out_33 f_M_out_79 f_M_out_70
    rw [if_neg (nI_pos (by omega)), nI_add, nI_back]
    refine sm_gI hm rfl (sm_i (fun _ => ih _ _ (by omega) (by omega)) (fun hc => ?_))
    rw [e4] at hc
    have : j + d < n := Nat.lt_of_not_le (fun w => hc (nI_le w (by omega)))
    exact sm_gR hm (c := 2) rfl (sm_aI hm (k := 3) (n := 65536) rfl rfl ⟨j + d, by omega, rfl⟩ (fun _ _ _ => ih _ _ (by omega) (by omega)))
theorem sm_out {a1 : Int32} {n : Nat} (hm : m ≤ h.length) (hF : 8 < F) (hn : n ≤ 65536) (e4 : gI σ0 4 = nI n) (hf : FR [0] [] [] [] σ0 σ) : Sm m h (FR [0] [] [] [] σ0) Any (f_M_out F m a1 (mh m h σ)) := by
  have e : gI σ 4 = nI n := (FR0_I hf (by decide)).trans e4
  unfold f_M_out f_M_out_13 f_M_out_18
  refine sm_i (fun _ => ?_) (fun h1 => sm_gI hm rfl (sm_i (fun h2 => ?_) (fun _ => ?_)))
  · repeat' (first | exact absurd (show nI 0 = 0 from rfl) (by assumption) | exact absurd (show nI 1 = 0 by assumption) (by decide) | ((with_reducible refine sm_i (fun hc => ?_) (fun hc => ?_))) | ((with_reducible refine sm_gI hm (by with_unfolding_all exact rfl) ?_)) | ((with_reducible refine sm_gJ hm (by with_unfolding_all exact rfl) ?_)) | ((with_reducible refine sm_gR hm (by with_unfolding_all exact rfl) ?_)) | ((with_reducible refine sm_o hm (fun l => ?_))) | ((with_reducible refine sm_r ?_ ?_); (first | exact any | assumption | first | exact ⟨false, rfl⟩ | exact ⟨true, rfl⟩ | assumption); assumption) | ((with_reducible refine sm_z ?_ ?_ ?_); (first | exact ⟨false, rfl⟩ | exact ⟨true, rfl⟩ | assumption); (first | exact any | exact ⟨false, rfl⟩ | exact ⟨true, rfl⟩ | assumption); assumption) | ((with_reducible refine sm_t0 hm (by assumption) (fun σ hi => ?_))) | ((with_reducible refine sm_tA hm (by assumption) (fun σ hi => ?_))) | ((with_reducible refine sm_tB hm (by assumption) (fun σ hi => ?_))) | ((with_reducible refine sm_tC hm (by assumption) (fun σ hi => ?_))))
  · obtain ⟨j, hj, rfl⟩ := ixL h1 (by rw [← e]; exact h2) (Nat.le_refl n)
    refine sm_o hm (fun _ => sm_t0 hm hf (fun σ hi => sm_i (fun _ => ?_) (fun hc => absurd rfl hc)))
    exact sm_out_33 hm hn hj ((FR0_I hi (by decide)).trans e4) hi 8 F _ (Nat.le_refl _) (by omega)
  · repeat' (first | exact absurd (show nI 0 = 0 from rfl) (by assumption) | exact absurd (show nI 1 = 0 by assumption) (by decide) | ((with_reducible refine sm_i (fun hc => ?_) (fun hc => ?_))) | ((with_reducible refine sm_gI hm (by with_unfolding_all exact rfl) ?_)) | ((with_reducible refine sm_gJ hm (by with_unfolding_all exact rfl) ?_)) | ((with_reducible refine sm_gR hm (by with_unfolding_all exact rfl) ?_)) | ((with_reducible refine sm_o hm (fun l => ?_))) | ((with_reducible refine sm_r ?_ ?_); (first | exact any | assumption | first | exact ⟨false, rfl⟩ | exact ⟨true, rfl⟩ | assumption); assumption) | ((with_reducible refine sm_z ?_ ?_ ?_); (first | exact ⟨false, rfl⟩ | exact ⟨true, rfl⟩ | assumption); (first | exact any | exact ⟨false, rfl⟩ | exact ⟨true, rfl⟩ | assumption); assumption) | ((with_reducible refine sm_t0 hm (by assumption) (fun σ hi => ?_))) | ((with_reducible refine sm_tA hm (by assumption) (fun σ hi => ?_))) | ((with_reducible refine sm_tB hm (by assumption) (fun σ hi => ?_))) | ((with_reducible refine sm_tC hm (by assumption) (fun σ hi => ?_))))
end MSC
end
section
/-! the reference's calls that ask for a member or a byte: safe (steps spelled out by sf/pp.py) -/
section MCL
variable {F m : Nat} {h : px_H} {σ0 σ : px_S} {fs : px_FS}
theorem RF_0 (hr : RF σ0 fs) (hf : FR [0] [] [] [] σ0 σ) : RF σ fs := RF_FR hr hf (by decide) (by decide)
theorem RF_8 (hr : RF σ fs) {i : Nat} (hi : i < fs.length) : ∃ l, l ≤ 8 ∧ gA σ 8 i = nI l := by
  obtain ⟨x, hx⟩ : ∃ x, fs[i]? = some x := ⟨_, List.getElem?_eq_getElem hi⟩
  obtain ⟨_, _, _, _, l, hl, _⟩ := hr.2.2.2 i x hx
  obtain ⟨w1, w2, _⟩ := RF_row hr hx hl
  exact ⟨_, w2, w1⟩
theorem ix8 {i k : Nat} : (nI 8 * nI i) + nI k = nI (8 * i + k) := by
  rw [show nI 8 * nI i = nI (8 * i) from (Int32.ofNat_mul 8 i).symm, nI_add]
theorem sm_taken {a1 a2 : Int32} (hm : m ≤ h.length) (hr : RF σ0 fs) (hf : FR [0] [] [] [] σ0 σ) : Sm m h (FR [0] [] [] [] σ0) Any (f_M_taken F m a1 a2 (mh m h σ)) := by
  have hr1 := RF_0 hr hf
  have h8 := hr1.2.1
  unfold f_M_taken f_M_taken_27 f_M_taken_32 f_M_taken_68 f_M_taken_69
  refine sm_i (fun _ => ?_) (fun c1 => sm_gI hm rfl (sm_i (fun _ => ?_) (fun c2 => sm_i (fun _ => ?_) (fun c3 => ?_))))
  · repeat' (first | exact absurd (show nI 0 = 0 from rfl) (by assumption) | exact absurd (show nI 1 = 0 by assumption) (by decide) | ((with_reducible refine sm_i (fun hc => ?_) (fun hc => ?_))) | ((with_reducible refine sm_gI hm (by with_unfolding_all exact rfl) ?_)) | ((with_reducible refine sm_gJ hm (by with_unfolding_all exact rfl) ?_)) | ((with_reducible refine sm_gR hm (by with_unfolding_all exact rfl) ?_)) | ((with_reducible refine sm_o hm (fun l => ?_))) | ((with_reducible refine sm_r ?_ ?_); (first | exact any | assumption | first | exact ⟨false, rfl⟩ | exact ⟨true, rfl⟩ | assumption); assumption) | ((with_reducible refine sm_z ?_ ?_ ?_); (first | exact ⟨false, rfl⟩ | exact ⟨true, rfl⟩ | assumption); (first | exact any | exact ⟨false, rfl⟩ | exact ⟨true, rfl⟩ | assumption); assumption) | ((with_reducible refine sm_t0 hm (by assumption) (fun σ hi => ?_))) | ((with_reducible refine sm_tA hm (by assumption) (fun σ hi => ?_))) | ((with_reducible refine sm_tB hm (by assumption) (fun σ hi => ?_))) | ((with_reducible refine sm_tC hm (by assumption) (fun σ hi => ?_))))
  · repeat' (first | exact absurd (show nI 0 = 0 from rfl) (by assumption) | exact absurd (show nI 1 = 0 by assumption) (by decide) | ((with_reducible refine sm_i (fun hc => ?_) (fun hc => ?_))) | ((with_reducible refine sm_gI hm (by with_unfolding_all exact rfl) ?_)) | ((with_reducible refine sm_gJ hm (by with_unfolding_all exact rfl) ?_)) | ((with_reducible refine sm_gR hm (by with_unfolding_all exact rfl) ?_)) | ((with_reducible refine sm_o hm (fun l => ?_))) | ((with_reducible refine sm_r ?_ ?_); (first | exact any | assumption | first | exact ⟨false, rfl⟩ | exact ⟨true, rfl⟩ | assumption); assumption) | ((with_reducible refine sm_z ?_ ?_ ?_); (first | exact ⟨false, rfl⟩ | exact ⟨true, rfl⟩ | assumption); (first | exact any | exact ⟨false, rfl⟩ | exact ⟨true, rfl⟩ | assumption); assumption) | ((with_reducible refine sm_t0 hm (by assumption) (fun σ hi => ?_))) | ((with_reducible refine sm_tA hm (by assumption) (fun σ hi => ?_))) | ((with_reducible refine sm_tB hm (by assumption) (fun σ hi => ?_))) | ((with_reducible refine sm_tC hm (by assumption) (fun σ hi => ?_))))
  · repeat' (first | exact absurd (show nI 0 = 0 from rfl) (by assumption) | exact absurd (show nI 1 = 0 by assumption) (by decide) | ((with_reducible refine sm_i (fun hc => ?_) (fun hc => ?_))) | ((with_reducible refine sm_gI hm (by with_unfolding_all exact rfl) ?_)) | ((with_reducible refine sm_gJ hm (by with_unfolding_all exact rfl) ?_)) | ((with_reducible refine sm_gR hm (by with_unfolding_all exact rfl) ?_)) | ((with_reducible refine sm_o hm (fun l => ?_))) | ((with_reducible refine sm_r ?_ ?_); (first | exact any | assumption | first | exact ⟨false, rfl⟩ | exact ⟨true, rfl⟩ | assumption); assumption) | ((with_reducible refine sm_z ?_ ?_ ?_); (first | exact ⟨false, rfl⟩ | exact ⟨true, rfl⟩ | assumption); (first | exact any | exact ⟨false, rfl⟩ | exact ⟨true, rfl⟩ | assumption); assumption) | ((with_reducible refine sm_t0 hm (by assumption) (fun σ hi => ?_))) | ((with_reducible refine sm_tA hm (by assumption) (fun σ hi => ?_))) | ((with_reducible refine sm_tB hm (by assumption) (fun σ hi => ?_))) | ((with_reducible refine sm_tC hm (by assumption) (fun σ hi => ?_))))
  · rw [hr1.1] at c2
    obtain ⟨i, hi, rfl⟩ := ixG c1 c2 (Nat.le_refl _)
    obtain ⟨l, hl, el⟩ := RF_8 hr1 hi
    refine sm_gR hm (c := 5) rfl (sm_aI hm (k := 8) (n := 8) rfl rfl ⟨i, by omega, rfl⟩ (fun j hj ej => ?_))
    have e : j = i := ((nI_eq (show i < 2 ^ 31 by omega) (show j < 2 ^ 31 by omega)).mp ej).symm
    subst e
    refine sm_i (fun c4 => ?_) (fun _ => ?_)
    · rw [el] at c4
      obtain ⟨k, hk, rfl⟩ := ixL c3 c4 hl
      rw [ix8]
      have hx : ∃ q, q < 64 ∧ nI (8 * j + k) = nI q := ⟨_, by omega, rfl⟩
      have hx8 : ∃ q, q < 8 ∧ nI j = nI q := ⟨_, by omega, rfl⟩
      repeat' (first | ((with_reducible refine sm_aI hm (by with_unfolding_all exact rfl) (by with_unfolding_all exact rfl) ?_ (fun j hj ej => ?_)); first | exact hx | exact hx8) | exact absurd (show nI 0 = 0 from rfl) (by assumption) | exact absurd (show nI 1 = 0 by assumption) (by decide) | ((with_reducible refine sm_i (fun hc => ?_) (fun hc => ?_))) | ((with_reducible refine sm_gI hm (by with_unfolding_all exact rfl) ?_)) | ((with_reducible refine sm_gJ hm (by with_unfolding_all exact rfl) ?_)) | ((with_reducible refine sm_gR hm (by with_unfolding_all exact rfl) ?_)) | ((with_reducible refine sm_o hm (fun l => ?_))) | ((with_reducible refine sm_r ?_ ?_); (first | exact any | assumption | first | exact ⟨false, rfl⟩ | exact ⟨true, rfl⟩ | assumption); assumption) | ((with_reducible refine sm_z ?_ ?_ ?_); (first | exact ⟨false, rfl⟩ | exact ⟨true, rfl⟩ | assumption); (first | exact any | exact ⟨false, rfl⟩ | exact ⟨true, rfl⟩ | assumption); assumption) | ((with_reducible refine sm_t0 hm (by assumption) (fun σ hi => ?_))) | ((with_reducible refine sm_tA hm (by assumption) (fun σ hi => ?_))) | ((with_reducible refine sm_tB hm (by assumption) (fun σ hi => ?_))) | ((with_reducible refine sm_tC hm (by assumption) (fun σ hi => ?_))))
    · repeat' (first | exact absurd (show nI 0 = 0 from rfl) (by assumption) | exact absurd (show nI 1 = 0 by assumption) (by decide) | ((with_reducible refine sm_i (fun hc => ?_) (fun hc => ?_))) | ((with_reducible refine sm_gI hm (by with_unfolding_all exact rfl) ?_)) | ((with_reducible refine sm_gJ hm (by with_unfolding_all exact rfl) ?_)) | ((with_reducible refine sm_gR hm (by with_unfolding_all exact rfl) ?_)) | ((with_reducible refine sm_o hm (fun l => ?_))) | ((with_reducible refine sm_r ?_ ?_); (first | exact any | assumption | first | exact ⟨false, rfl⟩ | exact ⟨true, rfl⟩ | assumption); assumption) | ((with_reducible refine sm_z ?_ ?_ ?_); (first | exact ⟨false, rfl⟩ | exact ⟨true, rfl⟩ | assumption); (first | exact any | exact ⟨false, rfl⟩ | exact ⟨true, rfl⟩ | assumption); assumption) | ((with_reducible refine sm_t0 hm (by assumption) (fun σ hi => ?_))) | ((with_reducible refine sm_tA hm (by assumption) (fun σ hi => ?_))) | ((with_reducible refine sm_tB hm (by assumption) (fun σ hi => ?_))) | ((with_reducible refine sm_tC hm (by assumption) (fun σ hi => ?_))))
theorem lN_T3 {y : Nat} (h : y < 2 ^ 63) : (lN y).toInt = (y : Int) := Int64.toInt_ofNat_of_lt h
theorem lN_Tn {y : Nat} (h1 : 2 ^ 63 ≤ y) (h2 : y < 2 ^ 64) : (lN y).toInt = (y : Int) - 2 ^ 64 := by
  show (BitVec.ofNat 64 y).toInt = _
  rw [BitVec.toInt_eq_toNat_cond, BitVec.toNat_ofNat, Nat.mod_eq_of_lt h2, if_neg (by omega)]
  rfl
theorem sm_peek {x : Int64} (hm : m ≤ h.length) (hF : 8 < F) (hv : MV σ0) (hf : FR [0] [] [] [] σ0 σ) : Sm m h (FR [0] [] [] [] σ0) Any (f_M_peek F m x (mh m h σ)) := by
  unfold f_M_peek f_M_peek_62
  refine sm_pI hm rfl (FR0 hf) (fun σ hi => ?_)
  obtain ⟨r, hr, er, hx⟩ := MV_0 hv hi
  refine sm_o hm (fun _ => sm_x (sm_row_2 hm hr er r 0 F (Nat.zero_add _) (by omega)) ?_)
  rintro v _ hv rfl
  refine sm_i (fun hc => ?_) (fun hc => sm_r any hi)
  rcases hv with rfl | ⟨i, hi8, rfl, hlt⟩
  · exact absurd hc (by decide)
  · obtain ⟨s, p, fz, e7, hs, e6, e8, hb⟩ := hx i hi8
    have hii : ∀ j, nI i = nI j → j < 8 → j = i := fun j ej hj => ((nI_eq (show i < 2 ^ 31 by omega) (show j < 2 ^ 31 by omega)).mp ej).symm
    refine sm_gR hm (c := 71) rfl (sm_aJ hm (k := 107) (n := 8) rfl rfl ⟨i, by omega, rfl⟩ (fun j hj ej => ?_))
    obtain rfl := hii j ej hj
    refine sm_gR hm (c := 72) rfl (sm_aJ hm (k := 108) (n := 8) rfl rfl ⟨j, by omega, rfl⟩ (fun j' hj' ej' => ?_))
    obtain rfl := hii j' ej' hj'
    refine sm_i (fun _ => sm_r any hi) (fun hc2 => ?_)
    refine sm_gR hm (c := 68) rfl (sm_gR hm (c := 70) rfl (sm_aJ hm (k := 106) (n := 8) rfl rfl ⟨j', by omega, rfl⟩ (fun j2 hj2 ej2 => ?_)))
    obtain rfl := hii j2 ej2 hj2
    refine sm_aI hm (k := 100) (n := 65536) rfl rfl ?_ (fun _ _ _ => sm_r any hi)
    rw [e7] at hlt hc2 ⊢
    rw [e8] at hc2
    rw [e6]
    obtain ⟨y, hy, rfl⟩ := wb_of x
    have hp : ∃ d, d < fz ∧ lN y - lN s = lN d := by
      have h1 : ¬ (lN y).toInt < (lN s).toInt := fun w => hlt (Int64.lt_iff_toInt_lt.mpr w)
      have es : (lN s).toInt = (s : Int) := lN_T3 (by omega)
      have hy2 : y < 2 ^ 63 := by
        apply Nat.lt_of_not_le
        intro w
        apply h1
        rw [es, lN_Tn w hy]
        omega
      have ey : (lN y).toInt = (y : Int) := lN_T3 hy2
      rw [es, ey] at h1
      have hsy : s ≤ y := by omega
      refine ⟨y - s, ?_, lN_sub hsy⟩
      apply Nat.lt_of_not_le
      intro w
      apply hc2
      rw [lN_sub hsy]
      exact Int64.le_iff_toInt_le.mpr (by rw [lN_T3 (by omega), lN_T3 (by omega)]; omega)
    obtain ⟨d, hd, ed⟩ := hp
    rw [ed, lN_add, lN_i]
    exact ⟨p + d, by omega, rfl⟩
/-- the address that is answered -/
def adQ (σ : px_S) : Option Nat → Int64
  | none => -1
  | some i => gB σ 29 i
theorem q_address {n : Nat} {b : Nat → Nat} {ws : List (List Nat)} (hm : m ≤ h.length) (hF : 4096 < F) (ht : RT σ n b) (hn : RNm σ ws) : ∃ v σ', f_M_address F m (mh m h σ) = some (v, mh m h σ') ∧ gI σ' 0 = nI (if gI σ 13 = 0 then 0 else 1) ∧ RT σ' (if gI σ 13 = 0 then 0 else n) (if gI σ 13 = 0 then fun _ => 0 else b) ∧ FR [0, 2] [] [] [] σ σ' ∧ (gI σ 13 = 0 → v = adQ σ (idx (tk b 0 n) 0 ws)) := by
  obtain ⟨t1, t2, t3, t4⟩ := ht
  unfold f_M_address f_M_address_13 f_M_address_57
  rw [Mg13 hm, bs]
  by_cases c1 : gI σ 13 = 0
  · rw [if_pos c1, e_o hm, bs, show f_M_throwing F m (nI 0) (nI 0) (mh m h σ) = _ from q_throwing hm false false, xb_mk, if_pos (show bI (false || false) = 0 from rfl), Mr1 hm, bs, Mg2 hm, bs, e_o hm, bs]
    have e2 : gI (sI σ 0 (nI (thr false false))) 2 = nI n := t1
    have hs : srcT (gA σ 1) 0 (tk b 0 n) := fun j x hx => by
      have hj : j < n := by have := List.getElem?_eq_some_iff.mp hx; obtain ⟨w, _⟩ := this; rw [tk_len] at w; exact w
      rw [tk_get b 0 n j hj] at hx
      injection hx with hx
      rw [← hx, ← t4, cb_at (by omega), Nat.zero_add, Nat.zero_add]
      exact t3 j
    have hw : ∀ x, x ∈ tk b 0 n → x < 256 := tk_lt (fun k => by rw [← t4]; exact cb_lt _ _ _ _) 0 n
    have q := q_find (F := F) (σ := sI σ 0 (nI (thr false false))) (pa := m + 1) (M := 8192) (T := gA σ 1) (p := 0) (w := tk b 0 n) hm hF (RNm_eq hn rfl rfl rfl) (fun i hi => Ma1 hm hi) hs hw (by rw [tk_len]; omega) (by decide)
    rw [tk_len, Nat.zero_add] at q
    rw [e2, q, xb_mk, Mp2 hm, bs]
    have fin : ∀ (o : Option Nat) (v : Int64), v = adQ σ o → ∃ v' σ', some (v, mh m h (sI (sI σ 0 (nI (thr false false))) 2 (nI 0))) = some (v', mh m h σ') ∧ gI σ' 0 = nI (if gI σ 13 = 0 then 0 else 1) ∧ RT σ' (if gI σ 13 = 0 then 0 else n) (if gI σ 13 = 0 then fun _ => 0 else b) ∧ FR [0, 2] [] [] [] σ σ' ∧ (gI σ 13 = 0 → v' = adQ σ o) := fun o v hv => by
      refine ⟨v, _, rfl, ?_, ?_, FR_trans (FR_mono (FR_I _ _ _) (by decide) (by decide) (by decide) (by decide)) (FR_mono (FR_I _ _ _) (by decide) (by decide) (by decide) (by decide)), fun _ => hv⟩
      · rw [if_pos c1]; rfl
      · rw [if_pos c1, if_pos c1]
        refine ⟨rfl, Nat.zero_le _, t3, ?_⟩
        funext x
        unfold cb
        rw [if_neg (Nat.not_lt_zero x)]
    cases e : idx (tk b 0 n) 0 ws with
    | none => rw [if_neg (show ¬ (0 : Int32) ≤ tdA none by decide)]; exact fin none _ rfl
    | some i =>
      have hi := (idx_lt e).2
      have hl := hn.2.1
      rw [if_pos (show (0 : Int32) ≤ tdA (some i) from nI_0le (by omega)), Mr29 hm, bs, show tdA (some i) = nI i from rfl, Ma29 hm (by omega), bs]
      exact fin (some i) _ rfl
  · rw [if_neg c1, e_o hm, bs, show f_M_throwing F m (nI 1) (nI 0) (mh m h σ) = _ from q_throwing hm true false, xb_mk, if_neg (show ¬ bI (true || false) = 0 by decide)]
    refine ⟨_, _, rfl, ?_, ?_, FR_mono (FR_I _ _ _) (by decide) (by decide) (by decide) (by decide), fun q => absurd q c1⟩
    · rw [if_neg c1]; rfl
    · rw [if_neg c1, if_neg c1]; exact ⟨t1, t2, t3, t4⟩
end MCL
end
section
/-! the reference's cause and sum: safe (steps spelled out by sf/pp.py) -/
/-- whom a member was taken for: nobody, or a name that is there -/
def CAu (σ : px_S) (ws : List (List Nat)) : Prop := ∀ q, q < 64 → gA σ 18 q = 0 ∨ gA σ 40 q = Int32.ofInt (-1) ∨ ∃ i, i < ws.length ∧ gA σ 40 q = nI i
/-- OUT's size and bytes -/
def OUo (σ : px_S) : Prop := (∃ n, n ≤ 65536 ∧ gI σ 4 = nI n) ∧ ∀ k, isB (gA σ 3 k)
section MCA
variable {F m : Nat} {h : px_H} {σ0 σ : px_S} {fs : px_FS} {ws : List (List Nat)}
def CI (σ0 σ : px_S) : Prop := FR [0, 4] [] [3] [] σ0 σ ∧ OUo σ
theorem CI_0 (ho : OUo σ0) (hf : FR [0] [] [] [] σ0 σ) : CI σ0 σ := ⟨FR_mono hf (by decide) (by decide) (by decide) (by decide), by
  obtain ⟨⟨n, hn, en⟩, hb⟩ := ho
  exact ⟨⟨n, hn, (FR0_I hf (by decide)).trans en⟩, by rw [hf.2.2.1 3 (by decide)]; exact hb⟩⟩
theorem sm_wI {I I1 : px_S → Prop} {α : Type} {V : α → Prop} {o : Option (α × px_H)} (w : Sm m h I1 V o) (g : ∀ σ, I1 σ → I σ) : Sm m h I V o := by
  obtain ⟨v, σ, e, hv, hI⟩ := w
  exact ⟨v, σ, e, hv, g _ hI⟩
theorem sm_cause {a1 a2 : Int32} (hm : m ≤ h.length) (hF : 20 < F) (hr : RF σ0 fs) (hn : RNm σ0 ws) (hca : CAu σ0 ws) (ho : OUo σ0) (hf : FR [0] [] [] [] σ0 σ) : Sm m h (CI σ0) Any (f_M_cause F m a1 a2 (mh m h σ)) := by
  have hr1 := RF_0 hr hf
  have h8 := hr1.2.1
  have key : ∀ {i k : Nat}, i < 8 → k < 8 → Sm m h (CI σ0) Any (f_M_cause_48 F m (nI i) (nI k) m (nI 0) (mh m h σ)) := fun {i k} hi hk => by
    unfold f_M_cause_48 f_M_cause_91
    rw [ix8]
    have hq : 8 * i + k < 64 := by omega
    have hx : ∃ q, q < 64 ∧ nI (8 * i + k) = nI q := ⟨_, hq, rfl⟩
    have hqq : ∀ j, nI (8 * i + k) = nI j → j < 64 → j = 8 * i + k := fun j ej hj => ((nI_eq (show 8 * i + k < 2 ^ 31 by omega) (show j < 2 ^ 31 by omega)).mp ej).symm
    refine sm_o hm (fun _ => sm_t0 hm hf (fun σ hi' => sm_i (fun _ => ?_) (fun hc => absurd rfl hc)))
    have fin : ∀ {v : Int32}, Sm m h (CI σ0) Any (some (v, mh m h σ)) := sm_r any (CI_0 ho hi')
    refine sm_gR hm (c := 12) rfl (sm_aI hm (k := 19) (n := 8) rfl rfl ⟨i, hi, rfl⟩ (fun _ _ _ => sm_i (fun _ => fin) (fun _ => ?_)))
    refine sm_gR hm (c := 11) rfl (sm_aI hm (k := 18) (n := 64) rfl rfl hx (fun j hj ej => sm_i (fun _ => fin) (fun c18 => ?_)))
    obtain rfl := hqq j ej hj
    refine sm_gR hm (c := 30) rfl (sm_aI hm (k := 40) (n := 64) rfl rfl hx (fun j2 hj2 ej2 => ?_))
    obtain rfl := hqq j2 ej2 hj2
    rw [hi'.2.2.1 18 (by decide)] at c18
    have e40 : gA σ 40 = gA σ0 40 := hi'.2.2.1 40 (by decide)
    have e21 : gA σ 21 = gA σ0 21 := hi'.2.2.1 21 (by decide)
    have e22 : gA σ 22 = gA σ0 22 := hi'.2.2.1 22 (by decide)
    rw [e40]
    rcases hca _ hq with w | w | ⟨x, hx2, w⟩
    · exact absurd w c18
    · rw [w]
      exact sm_i (fun hc => absurd hc (by decide)) (fun _ => fin)
    · obtain ⟨t, ht⟩ : ∃ t, ws[x]? = some t := ⟨_, List.getElem?_eq_getElem hx2⟩
      obtain ⟨z1, z2, z3⟩ := hn.2.2 x t ht
      have hl := hn.2.1
      rw [w]
      refine sm_i (fun _ => ?_) (fun _ => fin)
      refine sm_gR hm (c := 13) rfl (sm_gR hm (c := 30) rfl (sm_aI hm (k := 40) (n := 64) rfl rfl hx (fun j3 hj3 ej3 => ?_)))
      obtain rfl := hqq j3 ej3 hj3
      rw [e40, w]
      refine sm_gR hm (c := 14) rfl (sm_gR hm (c := 30) rfl (sm_aI hm (k := 40) (n := 64) rfl rfl hx (fun j4 hj4 ej4 => ?_)))
      obtain rfl := hqq j4 ej4 hj4
      rw [e40, w]
      refine sm_aI hm (k := 22) (n := 4096) rfl rfl ⟨x, by omega, rfl⟩ (fun j5 hj5 ej5 => ?_)
      obtain rfl : j5 = x := ((nI_eq (show x < 2 ^ 31 by omega) (show j5 < 2 ^ 31 by omega)).mp ej5).symm
      rw [e22, z2, show nI 20 * nI j5 = nI (20 * j5) from (Int32.ofNat_mul 20 j5).symm]
      obtain ⟨σ', e, g1, g2, g3, g4, g5⟩ := q_say (F := F) (σ := σ) (pa := m + 13) (ks := 21) (M := 81920) (p := 20 * j5) (w := t) hm hF (fun σ i hi => Ma21 hm hi) (by decide) z1 (fun j y hy => by rw [e21]; exact z3 j y hy) (by have := z1.1; omega) (by rw [hi'.2.2.1 3 (by decide)]; exact ho.2)
      refine sm_o hm (fun _ => ?_)
      rw [e, xb_mk]
      refine sm_gI hm rfl (sm_r any ⟨⟨fun k hk => ?_, fun k _ => (g3 k).trans (hi'.2.1 k List.not_mem_nil), fun k hk => ?_, fun k _ => (g5 k).trans (hi'.2.2.2 k List.not_mem_nil)⟩, ⟨_, g1.2.1, g1.1⟩, g1.2.2.1⟩)
      · simp only [List.mem_cons, List.not_mem_nil, or_false, not_or] at hk
        exact (g2 k hk.2).trans (FR0_I hi' hk.1)
      · simp only [List.mem_cons, List.not_mem_nil, or_false] at hk
        exact (g4 k hk).trans (hi'.2.2.1 k List.not_mem_nil)
  have bad : Sm m h (CI σ0) Any (f_M_cause_48 F m a1 a2 m (nI 1) (mh m h σ)) := by
    refine sm_wI (I1 := FR [0] [] [] [] σ0) ?_ (fun σ hi => CI_0 ho hi)
    unfold f_M_cause_48
    repeat' (first | exact absurd (show nI 0 = 0 from rfl) (by assumption) | exact absurd (show nI 1 = 0 by assumption) (by decide) | ((with_reducible refine sm_i (fun hc => ?_) (fun hc => ?_))) | ((with_reducible refine sm_gI hm (by with_unfolding_all exact rfl) ?_)) | ((with_reducible refine sm_gJ hm (by with_unfolding_all exact rfl) ?_)) | ((with_reducible refine sm_gR hm (by with_unfolding_all exact rfl) ?_)) | ((with_reducible refine sm_o hm (fun l => ?_))) | ((with_reducible refine sm_r ?_ ?_); (first | exact any | assumption | first | exact ⟨false, rfl⟩ | exact ⟨true, rfl⟩ | assumption); assumption) | ((with_reducible refine sm_z ?_ ?_ ?_); (first | exact ⟨false, rfl⟩ | exact ⟨true, rfl⟩ | assumption); (first | exact any | exact ⟨false, rfl⟩ | exact ⟨true, rfl⟩ | assumption); assumption) | ((with_reducible refine sm_t0 hm (by assumption) (fun σ hi => ?_))) | ((with_reducible refine sm_tA hm (by assumption) (fun σ hi => ?_))) | ((with_reducible refine sm_tB hm (by assumption) (fun σ hi => ?_))) | ((with_reducible refine sm_tC hm (by assumption) (fun σ hi => ?_))))
  unfold f_M_cause f_M_cause_34 f_M_cause_39 f_M_cause_43
  refine sm_i (fun _ => bad) (fun c1 => sm_gI hm rfl (sm_i (fun _ => bad) (fun c2 => sm_i (fun _ => bad) (fun c3 => ?_))))
  rw [hr1.1] at c2
  obtain ⟨i, hi, rfl⟩ := ixG c1 c2 (Nat.le_refl _)
  obtain ⟨l, hl, el⟩ := RF_8 hr1 hi
  refine sm_gR hm (c := 5) rfl (sm_i (fun hc => absurd hc c1) (fun _ => sm_gI hm rfl (sm_i (fun _ => ?_) (fun hc => ?_))))
  · refine sm_aI hm (k := 8) (n := 8) rfl rfl ⟨i, by omega, rfl⟩ (fun j hj ej => ?_)
    obtain rfl : j = i := ((nI_eq (show i < 2 ^ 31 by omega) (show j < 2 ^ 31 by omega)).mp ej).symm
    refine sm_i (fun c4 => ?_) (fun _ => bad)
    rw [el] at c4
    obtain ⟨k, hk, rfl⟩ := ixL c3 c4 hl
    exact key (by omega) hk
  · exfalso
    rw [hr1.1] at hc
    exact hc (Int32.not_le.mp c2)
end MCA
end
section
/-! the reference's sum and list: safe (steps spelled out by sf/pp.py) -/
section MLS
variable {F m : Nat} {h : px_H} {σ0 σ : px_S} {fs : px_FS}
/-- a member that is there: what the files say of it -/
theorem mem_ob (hr : RF σ fs) {i k : Nat} (hi : i < fs.length) (hk : ∃ l, gA σ 8 i = nI l ∧ l ≤ 8 ∧ k < l) : ∃ o n b sk, obAt fs (8 * i + k) = some (o, n, b, sk) := by
  obtain ⟨l', e', h8, hk'⟩ := hk
  obtain ⟨x, hx⟩ : ∃ x, fs[i]? = some x := ⟨_, List.getElem?_eq_getElem hi⟩
  obtain ⟨_, _, _, _, l, hl, _⟩ := hr.2.2.2 i x hx
  obtain ⟨w1, w2, _⟩ := RF_row hr hx hl
  have el : l.length = l' := (nI_eq (by omega) (by omega)).mp (w1.symm.trans e')
  have e := obAt_none hr hx hl (show k < 8 by omega)
  have hy : l[k]? = some l[k] := List.getElem?_eq_getElem (by omega)
  rw [hy] at e
  exact ⟨_, _, _, _, e⟩
theorem sm_sum_120 {g : Int32} {o n : Nat} (hm : m ≤ h.length) (hF : 24 < F) (hB : ∀ k, isB (gA σ 6 k)) (hw : w2 (cb (gA σ 6) o n) n) (hon : o + n ≤ 65536) : ∀ (d j f : Nat) (v : Int64), j + d = oS (cb (gA σ 6) o n) → d < f → Sm m h (fun σ' => σ' = σ) Any (f_M_sum_120 F f m g (nI o) v (nI j) (mh m h σ)) := by
  have hb := Mmb hm hB
  have hrk := w1_rk hw.1 hon
  have h24 := hrk.2.2
  intro d
  induction d with
  | zero =>
    intro j f v hj hf
    obtain ⟨f, rfl⟩ : ∃ y, f = y + 1 := ⟨f - 1, by omega⟩
    unfold f_M_sum_120 f_M_sum_177
    rw [e_o hm, bs, q_sections hb (by omega) hrk.1, xb_mk, if_pos (nI_le (by omega) (by omega))]
    exact sm_r any rfl
  | succ d ih =>
    intro j f v hj hf
    obtain ⟨f, rfl⟩ : ∃ y, f = y + 1 := ⟨f - 1, by omega⟩
    have hjS : j < oS (cb (gA σ 6) o n) := by omega
    unfold f_M_sum_120 f_M_sum_177 f_M_sum_167 f_M_sum_168
    rw [e_o hm, bs, q_sections hb (by omega) hrk.1, xb_mk, if_neg (nI_ge (by omega) (by omega)), e_o hm, bs, q_isKept hb (by omega) hrk hjS, xb_mk, nI_add]
    refine sm_i (fun _ => ih _ _ _ (by omega) (by omega)) (fun _ => ?_)
    rw [e_o hm, bs, q_group hb (by omega) hrk hjS, xb_mk]
    refine sm_i (fun _ => ?_) (fun _ => ih _ _ _ (by omega) (by omega))
    rw [e_o hm, bs, q_size hb (by omega) hrk hjS, xb_mk]
    exact ih _ _ _ (by omega) (by omega)
theorem sm_sum {a1 a2 g : Int32} (hm : m ≤ h.length) (hF : 24 < F) (hr : RF σ0 fs) (hf : FR [0] [] [] [] σ0 σ) : Sm m h (FR [0] [] [] [] σ0) Any (f_M_sum F m a1 a2 g (mh m h σ)) := by
  have hr1 := RF_0 hr hf
  have h8 := hr1.2.1
  have bad2 : ∀ σ, FR [0] [] [] [] σ0 σ → Sm m h (FR [0] [] [] [] σ0) Any (f_M_sum_92 F m a1 a2 g m (nI 1) (mh m h σ)) := fun σ hi => by
    unfold f_M_sum_92
    repeat' (first | exact absurd (show nI 0 = 0 from rfl) (by assumption) | exact absurd (show nI 1 = 0 by assumption) (by decide) | ((with_reducible refine sm_i (fun hc => ?_) (fun hc => ?_))) | ((with_reducible refine sm_gI hm (by with_unfolding_all exact rfl) ?_)) | ((with_reducible refine sm_gJ hm (by with_unfolding_all exact rfl) ?_)) | ((with_reducible refine sm_gR hm (by with_unfolding_all exact rfl) ?_)) | ((with_reducible refine sm_o hm (fun l => ?_))) | ((with_reducible refine sm_r ?_ ?_); (first | exact any | assumption | first | exact ⟨false, rfl⟩ | exact ⟨true, rfl⟩ | assumption); assumption) | ((with_reducible refine sm_z ?_ ?_ ?_); (first | exact ⟨false, rfl⟩ | exact ⟨true, rfl⟩ | assumption); (first | exact any | exact ⟨false, rfl⟩ | exact ⟨true, rfl⟩ | assumption); assumption) | ((with_reducible refine sm_t0 hm (by assumption) (fun σ hi => ?_))) | ((with_reducible refine sm_tA hm (by assumption) (fun σ hi => ?_))) | ((with_reducible refine sm_tB hm (by assumption) (fun σ hi => ?_))) | ((with_reducible refine sm_tC hm (by assumption) (fun σ hi => ?_))))
  have bad : Sm m h (FR [0] [] [] [] σ0) Any (f_M_sum_47 F m a1 a2 g (nI 1) (mh m h σ)) := by
    unfold f_M_sum_47 f_M_sum_87
    exact sm_i (fun hc => absurd hc (by decide)) (fun _ => bad2 σ hf)
  unfold f_M_sum f_M_sum_33 f_M_sum_38 f_M_sum_42
  refine sm_i (fun _ => bad) (fun c1 => sm_gI hm rfl (sm_i (fun _ => bad) (fun c2 => sm_i (fun _ => bad) (fun c3 => ?_))))
  rw [hr1.1] at c2
  obtain ⟨i, hi, rfl⟩ := ixG c1 c2 (Nat.le_refl _)
  obtain ⟨l, hl, el⟩ := RF_8 hr1 hi
  refine sm_gR hm (c := 5) rfl (sm_i (fun hc => absurd hc c1) (fun _ => sm_gI hm rfl (sm_i (fun _ => ?_) (fun hc => ?_))))
  · refine sm_aI hm (k := 8) (n := 8) rfl rfl ⟨i, by omega, rfl⟩ (fun j hj ej => ?_)
    obtain rfl : j = i := ((nI_eq (show i < 2 ^ 31 by omega) (show j < 2 ^ 31 by omega)).mp ej).symm
    refine sm_i (fun c4 => ?_) (fun _ => bad)
    rw [el] at c4
    obtain ⟨k, hk, rfl⟩ := ixL c3 c4 (Nat.le_refl l)
    obtain ⟨o, n, b, sk, hob⟩ := mem_ob hr1 hi ⟨l, el, hl, hk⟩
    obtain ⟨q1, q2, q3, q4, q5, q6, q7⟩ := RF_ob hr1 hob
    have hx : ∃ q, q < 64 ∧ nI (8 * j + k) = nI q := ⟨_, q1, rfl⟩
    have hqq : ∀ j', nI (8 * j + k) = nI j' → j' < 64 → j' = 8 * j + k := fun j' ej hj => ((nI_eq (show 8 * j + k < 2 ^ 31 by omega) (show j' < 2 ^ 31 by omega)).mp ej).symm
    unfold f_M_sum_47 f_M_sum_74 f_M_sum_87
    rw [ix8]
    refine sm_i (fun _ => sm_gR hm (c := 9) rfl (sm_i (fun _ => ?_) (fun hc => absurd rfl hc))) (fun hc => absurd rfl hc)
    refine sm_aI hm (k := 12) (n := 64) rfl rfl hx (fun j2 hj2 ej2 => ?_)
    obtain rfl := hqq j2 ej2 hj2
    rw [q4]
    refine sm_i (fun hsk => sm_i (fun _ => bad2 σ hf) (fun _ => sm_i (fun _ => ?_) (fun _ => bad2 σ hf))) (fun _ => bad2 σ hf)
    have hskf : sk = false := by
      cases sk with
      | false => rfl
      | true => exact absurd hsk (by decide)
    have he := q7 hskf
    unfold f_M_sum_92
    rw [ix8]
    refine sm_o hm (fun _ => sm_t0 hm hf (fun σ' hi' => sm_i (fun _ => ?_) (fun hc => absurd rfl hc)))
    refine sm_gR hm (c := 6) rfl (sm_aI hm (k := 9) (n := 64) rfl rfl hx (fun j3 hj3 ej3 => ?_))
    obtain rfl := hqq j3 ej3 hj3
    have e6 : gA σ' 6 = gA σ 6 := (hi'.2.2.1 6 (by decide)).trans (hf.2.2.1 6 (by decide)).symm
    rw [(hi'.2.2.1 9 (by decide)).trans (hf.2.2.1 9 (by decide)).symm, q2]
    have hw2 : w2 (cb (gA σ' 6) o n) n := by rw [e6, q5]; exact (eObj_0 he).1
    have h1S := hw2.1.2.1.1
    have h24S := hw2.1.2.1.2
    refine sm_wI (I1 := fun σ'' => σ'' = σ') ?_ (fun _ e => by rw [e]; exact hi')
    exact sm_sum_120 hm hF (by rw [e6]; exact hr1.2.2.1) hw2 q6 (oS (cb (gA σ' 6) o n) - 1) 1 F _ (by omega) (by omega)
  · exfalso
    rw [hr1.1] at hc
    exact hc (Int32.not_le.mp c2)
end MLS
end
section
/-! the reference's list: safe (steps spelled out by sf/pp.py) -/
/-- OUT is being written: c bytes stand there -/
def OWi (σ0 σ : px_S) (c : Nat) : Prop := FR [0, 4] [] [3] [] σ0 σ ∧ gI σ 4 = nI c ∧ ∀ k, isB (gA σ 3 k)
section MLI
variable {F m : Nat} {h : px_H} {σ0 σ : px_S} {fs : px_FS} {c : Nat}
theorem OWi_w {j : Nat} {v : Int32} (hI : OWi σ0 σ c) : OWi σ0 (sA σ 3 (upd (gA σ 3) j v.toInt8.toInt32)) c := by
  obtain ⟨h1, h2, h3⟩ := hI
  refine ⟨FR_trans h1 (FR_mono (FR_A _ _ _) (by decide) (by decide) (by decide) (by decide)), h2, fun k => ?_⟩
  rw [gA_sA, if_pos rfl]
  exact upd_B h3 (isB_8 _) k
theorem OWi_p {c' : Nat} (hI : OWi σ0 σ c) : OWi σ0 (sI σ 4 (nI c')) c' := by
  obtain ⟨h1, h2, h3⟩ := hI
  exact ⟨FR_trans h1 (FR_mono (FR_I _ _ _) (by decide) (by decide) (by decide) (by decide)), by rw [gI_sI, if_pos rfl], h3⟩
theorem OWi_6 (hI : OWi σ0 σ c) : gA σ 6 = gA σ0 6 := hI.1.2.2.1 6 (by decide)
/-- one byte of OUT -/
theorem sm_w3 {I : px_S → Prop} {α : Type} {V : α → Prop} {f : px_H → Option (α × px_H)} {p : Nat} {v : Int32} (hm : m ≤ h.length) (hI : OWi σ0 σ c) (hp : p < 65536) (g : ∀ σ, OWi σ0 σ c → Sm m h I V (f (mh m h σ))) : Sm m h I V ((xsI (mh m h σ) 0 (m + 2) (nI p) v.toInt8.toInt32).bind f) := by
  rw [Ms3 hm hp, bs]; exact g _ (OWi_w hI)
theorem sm_p4 {I : px_S → Prop} {α : Type} {V : α → Prop} {f : px_H → Option (α × px_H)} {c' : Nat} (hm : m ≤ h.length) (hI : OWi σ0 σ c) (g : ∀ σ, OWi σ0 σ c' → Sm m h I V (f (mh m h σ))) : Sm m h I V ((xpI (mh m h σ) 12 4 m (nI c')).bind f) := by
  rw [Mp4 hm, bs]; exact g _ (OWi_p hI)
theorem sm_16_3 {x : Int64} {p : Nat} (hm : m ≤ h.length) (hp : p + 16 ≤ 65536) : ∀ (d j f : Nat) (σ : px_S), j + d = 16 → d < f → OWi σ0 σ c → Sm m h (fun σ' => OWi σ0 σ' c) Any (f_M_sixteen_3 F f m (nI p) x (nI j) (mh m h σ)) := by
  intro d
  induction d with
  | zero =>
    intro j f σ hj hf hI
    obtain ⟨f, rfl⟩ : ∃ y, f = y + 1 := ⟨f - 1, by omega⟩
    unfold f_M_sixteen_3 f_M_sixteen_65
    rw [if_pos (nI_le (by omega) (by omega))]
    exact sm_r any hI
  | succ d ih =>
    intro j f σ hj hf hI
    obtain ⟨f, rfl⟩ : ∃ y, f = y + 1 := ⟨f - 1, by omega⟩
    unfold f_M_sixteen_3 f_M_sixteen_57
    rw [if_neg (nI_ge (by omega) (by omega)), nI_add, nI_add]
    refine sm_gR hm (c := 2) rfl (sm_i (fun _ => ?_) (fun _ => ?_))
    · exact sm_w3 hm hI (by omega) (fun σ hi => ih _ _ _ (by omega) (by omega) hi)
    · exact sm_w3 hm hI (by omega) (fun σ hi => ih _ _ _ (by omega) (by omega) hi)
theorem so_letter {o n k : Nat} (hm : m ≤ h.length) (hF : 24 < F) (hB : ∀ k, isB (gA σ 6 k)) (hw : w2 (cb (gA σ 6) o n) n) (hon : o + n ≤ 65536) (hk : k < oM (cb (gA σ 6) o n)) (hy : yOK (cb (gA σ 6) o n) k = true) : ∃ v, f_M_letterOf F m (nI o) (nI k) (mh m h σ) = some (v, mh m h σ) := by
  have hb := Mmb hm hB
  have hrk := w1_rk hw.1 hon
  have h1 := hw.1.2.1.1
  have hW := yOK_W hy
  have h24 := hw.1.2.1.2
  have key : ∀ s0 : Int32, ∃ v, f_M_letterOf_22 F m (nI o) (nI (yW (cb (gA σ 6) o n) k)) s0 (mh m h σ) = some (v, mh m h σ) := fun s0 => by
    unfold f_M_letterOf_22 f_M_letterOf_40 f_M_letterOf_110 f_M_letterOf_117
    by_cases c1 : nI (yW (cb (gA σ 6) o n) k) = 0
    · rw [if_pos c1]
      split
      · exact ⟨_, rfl⟩
      · exact ⟨_, rfl⟩
    · rw [if_neg c1]
      by_cases c2 : nI (yW (cb (gA σ 6) o n) k) = (65522 : Int32)
      · rw [if_pos c2]; exact ⟨_, rfl⟩
      · rw [if_neg c2]
        by_cases c3 : s0 = 0
        · rw [if_pos c3]
          by_cases c4 : nI (yW (cb (gA σ 6) o n) k) = (65521 : Int32)
          · rw [if_pos c4]; exact ⟨_, rfl⟩
          · have hlt : yW (cb (gA σ 6) o n) k < oS (cb (gA σ 6) o n) := by
              rcases hW with w | w | w | w
              · exact absurd (by rw [w]; rfl) c1
              · exact absurd (by rw [w]; rfl) c4
              · exact absurd (by rw [w]; rfl) c2
              · exact w
            rw [if_neg c4, e_o hm, bs, q_group hb (by omega) hrk hlt, xb_mk]
            split
            · exact ⟨_, rfl⟩
            · split
              · exact ⟨_, rfl⟩
              · split
                · exact ⟨_, rfl⟩
                · split
                  · exact ⟨_, rfl⟩
                  · exact ⟨_, rfl⟩
        · rw [if_neg c3]; exact ⟨_, rfl⟩
  unfold f_M_letterOf
  rw [e_o hm, bs, q_where hb hF hrk h1 (w2_y hw hk), xb_mk, e_o hm, bs, q_bind hb hF hrk h1 (w2_y hw hk), xb_mk]
  split
  · exact key _
  · exact key _
/-- an object that is listed -/
def OBl (σ0 : px_S) (o n : Nat) : Prop := (∀ k, isB (gA σ0 6 k)) ∧ o + n ≤ 65536 ∧ eObj (cb (gA σ0 6) o n) n = 0
theorem sm_li_273 {k110 : Nat → Int32 → Int32 → px_H → Option (Int32 × px_H)} {o k P c0 Y : Nat} (hm : m ≤ h.length) (hY : Y ≤ 20) (hP : P + Y < 65536) (hq : ∀ σ c, OWi σ0 σ c → f_M_nameEnd F m (nI o) (nI k) (mh m h σ) = some (nI (P + Y), mh m h σ)) (hc0 : c0 + 40 ≤ 65536) (hK : ∀ c σ, c ≤ c0 + 21 → OWi σ0 σ c → Sm m h (fun σ' => ∃ c, c ≤ 65536 ∧ OWi σ0 σ' c) Any (k110 m (nI o) (nI (k + 1)) (mh m h σ))) : ∀ (d t f : Nat) (σ : px_S), t + d = Y → d < f → OWi σ0 σ (c0 + t) → Sm m h (fun σ' => ∃ c, c ≤ 65536 ∧ OWi σ0 σ' c) Any (f_M_list_273 F k110 f m (nI o) (nI k) (nI (P + t)) (mh m h σ)) := by
  intro d
  induction d with
  | zero =>
    intro t f σ hj hf hI
    obtain ⟨f, rfl⟩ : ∃ y, f = y + 1 := ⟨f - 1, by omega⟩
    unfold f_M_list_273 f_M_list_318 f_M_list_339
    rw [e_o hm, bs, hq σ _ hI, xb_mk, if_pos (nI_le (by omega) (by omega)), Mr3 hm, bs, Mg4 hm, bs, hI.2.1, nI_add]
    refine sm_w3 hm hI (by omega) (fun σ hi => ?_)
    rw [Mg4 hm, bs, hi.2.1, nI_add]
    exact sm_p4 hm hi (fun σ hi => hK _ _ (by omega) hi)
  | succ d ih =>
    intro t f σ hj hf hI
    obtain ⟨f, rfl⟩ : ∃ y, f = y + 1 := ⟨f - 1, by omega⟩
    unfold f_M_list_273
    rw [e_o hm, bs, hq σ _ hI, xb_mk, if_neg (nI_ge (by omega) (by omega)), Mr3 hm, bs, Mg4 hm, bs, hI.2.1, Mr6 hm, bs, Ma6 hm (by omega), bs, nI_add, Nat.add_assoc P t 1]
    refine sm_w3 hm hI (by omega) (fun σ hi => ?_)
    rw [Mg4 hm, bs, hi.2.1, nI_add, Nat.add_assoc c0 t 1]
    exact sm_p4 hm hi (fun σ hi => ih (t + 1) f σ (by omega) (by omega) hi)
/-- what is read of a symbol that is listed, at any state of the writing -/
theorem li_sym {o n k : Nat} (hm : m ≤ h.length) (hF : 24 < F) (hO : OBl σ0 o n) (hk1 : 1 ≤ k) (hk : k < oM (cb (gA σ0 6) o n)) : ∃ B W V P Y, (nI B ≠ 0 → Y ≤ 20 ∧ P + Y < 65536) ∧ ∀ σ c, OWi σ0 σ c → f_M_bind F m (nI o) (nI k) (mh m h σ) = some (nI B, mh m h σ) ∧ f_M_where F m (nI o) (nI k) (mh m h σ) = some (nI W, mh m h σ) ∧ f_M_value F m (nI o) (nI k) (mh m h σ) = some (V, mh m h σ) ∧ (nI B ≠ 0 → (∃ v, f_M_letterOf F m (nI o) (nI k) (mh m h σ) = some (v, mh m h σ)) ∧ f_M_nameAt F m (nI o) (nI k) (mh m h σ) = some (nI P, mh m h σ) ∧ f_M_nameEnd F m (nI o) (nI k) (mh m h σ) = some (nI (P + Y), mh m h σ)) := by
  obtain ⟨hB, hon, he⟩ := id hO
  obtain ⟨hw, hyo, _⟩ := eObj_0 he
  have hX : oP (cb (gA σ0 6) o n) (oX (cb (gA σ0 6) o n)) + oZ (cb (gA σ0 6) o n) (oX (cb (gA σ0 6) o n)) ≤ n := by
    have hY : oY (cb (gA σ0 6) o n) ≠ 0 := fun e => by unfold oM at hk; rw [if_pos e] at hk; exact absurd hk (Nat.not_lt_zero k)
    obtain ⟨_, _, x1, x2⟩ := hw.2 hY
    exact hw.1.2.2.2.1 _ x1 (by rw [x2]; decide) (by rw [x2]; decide)
  have hG : nI (yB (cb (gA σ0 6) o n) k) ≠ 0 → yG (cb (gA σ0 6) o n) k = true := fun hBn => (yOK_n (hyo k hk1 hk) (fun e => hBn (by rw [e]; rfl))).2.1
  refine ⟨yB (cb (gA σ0 6) o n) k, yW (cb (gA σ0 6) o n) k, lN (yV (cb (gA σ0 6) o n) k), o + (oP (cb (gA σ0 6) o n) (oX (cb (gA σ0 6) o n)) + yN (cb (gA σ0 6) o n) k), yL (cb (gA σ0 6) o n) k, fun hBn => ?_, fun σ c hI => ?_⟩
  · obtain ⟨g1, g2, g3⟩ := yG_n (hG hBn)
    refine ⟨g2, ?_⟩
    generalize oP (cb (gA σ0 6) o n) (oX (cb (gA σ0 6) o n)) = p1 at *
    generalize oZ (cb (gA σ0 6) o n) (oX (cb (gA σ0 6) o n)) = p2 at *
    generalize yN (cb (gA σ0 6) o n) k = p3 at *
    generalize yL (cb (gA σ0 6) o n) k = p4 at *
    omega
  · have e6 := OWi_6 hI
    have hb : mb (mh m h σ) m (gA σ0 6) := by rw [← e6]; exact Mmb hm (by rw [e6]; exact hB)
    have hrk := w1_rk hw.1 hon
    have h1 := hw.1.2.1.1
    have hyp := w2_y hw hk
    refine ⟨q_bind hb hF hrk h1 hyp, q_where hb hF hrk h1 hyp, q_value hb hF hrk h1 hyp, fun hBn => ⟨so_letter hm hF (by rw [e6]; exact hB) (by rw [e6]; exact hw) hon (by rw [e6]; exact hk) (by rw [e6]; exact hyo k hk1 hk), q_nameAt hb hF hw hon hk, ?_⟩⟩
    have q := q_nameEnd (F := F) (σ := σ) (o := o) (n := n) (k := k) hm (by rw [e6]; exact hB) hF (by rw [e6]; exact hw) hon (by rw [e6]; exact hk) (by rw [e6]; exact hG hBn)
    rw [e6] at q
    exact q
end MLI
end
section
/-! the reference's list, whole: safe (steps spelled out by sf/pp.py) -/
section MLJ
variable {F m : Nat} {h : px_H} {σ0 σ : px_S} {fs : px_FS}
/-- OUT was written -/
def OWe (σ0 σ : px_S) : Prop := ∃ c, c ≤ 65536 ∧ OWi σ0 σ c
theorem sm_li_203 {k110 : Nat → Int32 → Int32 → px_H → Option (Int32 × px_H)} {o k c0 P Y : Nat} (hm : m ≤ h.length) (hF : 24 < F) (hY : Y ≤ 20) (hP : P + Y < 65536) (hl : ∀ σ c, OWi σ0 σ c → (∃ v, f_M_letterOf F m (nI o) (nI k) (mh m h σ) = some (v, mh m h σ)) ∧ f_M_nameAt F m (nI o) (nI k) (mh m h σ) = some (nI P, mh m h σ) ∧ f_M_nameEnd F m (nI o) (nI k) (mh m h σ) = some (nI (P + Y), mh m h σ)) (hc0 : c0 + 64 ≤ 65536) (hK : ∀ c σ, c ≤ c0 + 40 → OWi σ0 σ c → Sm m h (OWe σ0) Any (k110 m (nI o) (nI (k + 1)) (mh m h σ))) (hI : OWi σ0 σ c0) : Sm m h (OWe σ0) Any (f_M_list_203 F k110 m (nI o) (nI k) (mh m h σ)) := by
  unfold f_M_list_203
  rw [Mr3 hm, bs, Mg4 hm, bs, hI.2.1, nI_add]
  refine sm_w3 hm hI (by omega) (fun σ hi => ?_)
  obtain ⟨⟨v, ev⟩, _, _⟩ := hl σ _ hi
  rw [Mr3 hm, bs, Mg4 hm, bs, hi.2.1, e_o hm, bs, ev, xb_mk, nI_add]
  refine sm_w3 hm hi (by omega) (fun σ hi => ?_)
  rw [Mr3 hm, bs, Mg4 hm, bs, hi.2.1, nI_add]
  refine sm_w3 hm hi (by omega) (fun σ hi => ?_)
  rw [Mg4 hm, bs, hi.2.1, nI_add]
  refine sm_p4 hm hi (fun σ hi => ?_)
  obtain ⟨_, e2, _⟩ := hl σ _ hi
  rw [e_o hm, bs, e2, xb_mk]
  exact sm_li_273 (c0 := c0 + 19) (P := P) (Y := Y) hm hY hP (fun σ c hi => (hl σ c hi).2.2) (by omega) (fun c σ hc hi => hK c σ (by omega) hi) Y 0 F σ (Nat.zero_add _) (by omega) hi
theorem sm_li_165 {k110 : Nat → Int32 → Int32 → px_H → Option (Int32 × px_H)} {o k c0 W : Nat} (hm : m ≤ h.length) (hc0 : c0 + 64 ≤ 65536) (hwh : ∀ σ c, OWi σ0 σ c → f_M_where F m (nI o) (nI k) (mh m h σ) = some (nI W, mh m h σ)) (h203 : ∀ σ, OWi σ0 σ c0 → Sm m h (OWe σ0) Any (f_M_list_203 F k110 m (nI o) (nI k) (mh m h σ))) : ∀ (d j f : Nat) (σ : px_S), j + d = 16 → d < f → OWi σ0 σ c0 → Sm m h (OWe σ0) Any (f_M_list_165 F k110 f m (nI o) (nI k) (nI j) (mh m h σ)) := by
  intro d
  induction d with
  | zero =>
    intro j f σ hj hf hI
    obtain ⟨f, rfl⟩ : ∃ y, f = y + 1 := ⟨f - 1, by omega⟩
    unfold f_M_list_165
    rw [if_pos (nI_le (by omega) (by omega))]
    exact h203 σ hI
  | succ d ih =>
    intro j f σ hj hf hI
    obtain ⟨f, rfl⟩ : ∃ y, f = y + 1 := ⟨f - 1, by omega⟩
    unfold f_M_list_165
    rw [if_neg (nI_ge (by omega) (by omega)), e_o hm, bs, hwh σ _ hI, xb_mk]
    refine sm_i (fun _ => ?_) (fun _ => h203 σ hI)
    rw [Mr3 hm, bs, Mg4 hm, bs, hI.2.1, nI_add, nI_add]
    exact sm_w3 hm hI (by omega) (fun σ hi => ih _ _ _ (by omega) (by omega) hi)
theorem sm_li_110 {o M : Nat} (hm : m ≤ h.length) (hF : 24 < F) (hM : M ≤ 64) (hmany : ∀ σ c, OWi σ0 σ c → f_M_symbolMany F m (nI o) (mh m h σ) = some (nI M, mh m h σ)) (hsym : ∀ k, 1 ≤ k → k < M → ∃ B W V P Y, (nI B ≠ 0 → Y ≤ 20 ∧ P + Y < 65536) ∧ ∀ σ c, OWi σ0 σ c → f_M_bind F m (nI o) (nI k) (mh m h σ) = some (nI B, mh m h σ) ∧ f_M_where F m (nI o) (nI k) (mh m h σ) = some (nI W, mh m h σ) ∧ f_M_value F m (nI o) (nI k) (mh m h σ) = some (V, mh m h σ) ∧ (nI B ≠ 0 → (∃ v, f_M_letterOf F m (nI o) (nI k) (mh m h σ) = some (v, mh m h σ)) ∧ f_M_nameAt F m (nI o) (nI k) (mh m h σ) = some (nI P, mh m h σ) ∧ f_M_nameEnd F m (nI o) (nI k) (mh m h σ) = some (nI (P + Y), mh m h σ))) : ∀ (d k f c : Nat) (σ : px_S), k + d = 65 → 1 ≤ k → d < f → c + 40 ≤ 40 * k → OWi σ0 σ c → Sm m h (OWe σ0) Any (f_M_list_110 F f m (nI o) (nI k) (mh m h σ)) := by
  intro d
  induction d with
  | zero =>
    intro k f c σ hk hk1 hf hc hI
    obtain ⟨f, rfl⟩ : ∃ y, f = y + 1 := ⟨f - 1, by omega⟩
    unfold f_M_list_110 f_M_list_345
    rw [e_o hm, bs, hmany σ _ hI, xb_mk, if_pos (nI_le (by omega) (by omega)), Mg4 hm, bs]
    exact sm_r any ⟨c, by omega, hI⟩
  | succ d ih =>
    intro k f c σ hk hk1 hf hc hI
    obtain ⟨f, rfl⟩ : ∃ y, f = y + 1 := ⟨f - 1, by omega⟩
    unfold f_M_list_110 f_M_list_345 f_M_list_339 f_M_list_162
    rw [e_o hm, bs, hmany σ _ hI, xb_mk]
    by_cases hkM : M ≤ k
    · rw [if_pos (nI_le hkM (by omega)), Mg4 hm, bs]
      exact sm_r any ⟨c, by omega, hI⟩
    · rw [if_neg (nI_ge (by omega) (by omega))]
      obtain ⟨B, W, V, P, Y, hPY, hs⟩ := hsym k hk1 (by omega)
      obtain ⟨s1, s2, s3, s4⟩ := hs σ _ hI
      rw [e_o hm, bs, s1, xb_mk, nI_add]
      refine sm_i (fun _ => ih _ _ _ _ (by omega) (by omega) (by omega) (by omega) hI) (fun hB => ?_)
      obtain ⟨hY, hP⟩ := hPY hB
      have hl := fun σ c hi => (hs σ c hi).2.2.2 hB
      have h203 : ∀ σ, OWi σ0 σ c → Sm m h (OWe σ0) Any (f_M_list_203 F (f_M_list_110 F f) m (nI o) (nI k) (mh m h σ)) := fun σ hi => sm_li_203 hm hF hY hP hl (by omega) (fun c' σ hc' hi => ih _ _ _ _ (by omega) (by omega) (by omega) (by omega) hi) hi
      rw [e_o hm, bs, s2, xb_mk]
      refine sm_i (fun _ => sm_li_165 hm (by omega) (fun σ c hi => (hs σ c hi).2.1) h203 16 0 F σ rfl (by omega) hI) (fun _ => ?_)
      rw [Mg4 hm, bs, e_o hm, bs, s3, xb_mk, e_o hm, bs, hI.2.1]
      refine sm_x (sm_16_3 (F := F) (x := V) (p := c) hm (by omega) 16 0 F σ rfl (by omega) hI) (fun v σ hv hi => ?_)
      exact sm_li_165 hm (by omega) (fun σ c hi => (hs σ c hi).2.1) h203 16 0 F σ rfl (by omega) hi
theorem OWe_0 (ho : OUo σ0) (hf : FR [0] [] [] [] σ0 σ) : OWe σ0 σ := by
  obtain ⟨⟨n, hn, en⟩, hb⟩ := ho
  exact ⟨n, hn, FR_mono hf (by decide) (by decide) (by decide) (by decide), (FR0_I hf (by decide)).trans en, by rw [hf.2.2.1 3 (by decide)]; exact hb⟩
theorem sm_list {a1 a2 : Int32} (hm : m ≤ h.length) (hF : 65540 < F) (hr : RF σ0 fs) (ho : OUo σ0) (hf : FR [0] [] [] [] σ0 σ) : Sm m h (OWe σ0) Any (f_M_list F m a1 a2 (mh m h σ)) := by
  have hr1 := RF_0 hr hf
  have h8 := hr1.2.1
  have bad2 : ∀ σ, FR [0] [] [] [] σ0 σ → Sm m h (OWe σ0) Any (f_M_list_80 F m a1 a2 m (nI 1) (mh m h σ)) := fun σ hi => by
    refine sm_wI (I1 := FR [0] [] [] [] σ0) ?_ (fun σ hi => OWe_0 ho hi)
    unfold f_M_list_80
    repeat' (first | exact absurd (show nI 0 = 0 from rfl) (by assumption) | exact absurd (show nI 1 = 0 by assumption) (by decide) | ((with_reducible refine sm_i (fun hc => ?_) (fun hc => ?_))) | ((with_reducible refine sm_gI hm (by with_unfolding_all exact rfl) ?_)) | ((with_reducible refine sm_gJ hm (by with_unfolding_all exact rfl) ?_)) | ((with_reducible refine sm_gR hm (by with_unfolding_all exact rfl) ?_)) | ((with_reducible refine sm_o hm (fun l => ?_))) | ((with_reducible refine sm_r ?_ ?_); (first | exact any | assumption | first | exact ⟨false, rfl⟩ | exact ⟨true, rfl⟩ | assumption); assumption) | ((with_reducible refine sm_z ?_ ?_ ?_); (first | exact ⟨false, rfl⟩ | exact ⟨true, rfl⟩ | assumption); (first | exact any | exact ⟨false, rfl⟩ | exact ⟨true, rfl⟩ | assumption); assumption) | ((with_reducible refine sm_t0 hm (by assumption) (fun σ hi => ?_))) | ((with_reducible refine sm_tA hm (by assumption) (fun σ hi => ?_))) | ((with_reducible refine sm_tB hm (by assumption) (fun σ hi => ?_))) | ((with_reducible refine sm_tC hm (by assumption) (fun σ hi => ?_))))
  have bad : Sm m h (OWe σ0) Any (f_M_list_47 F m a1 a2 (nI 1) (mh m h σ)) := by
    unfold f_M_list_47 f_M_list_75
    exact sm_i (fun hc => absurd hc (by decide)) (fun _ => bad2 σ hf)
  unfold f_M_list f_M_list_37 f_M_list_38 f_M_list_42
  refine sm_i (fun _ => bad) (fun c1 => sm_gI hm rfl (sm_i (fun _ => bad) (fun c2 => sm_i (fun _ => bad) (fun c3 => ?_))))
  refine sm_gR hm (c := 5) rfl (sm_i (fun hc => absurd hc c1) (fun _ => sm_gI hm rfl (sm_i (fun hc => absurd hc c2) (fun _ => ?_))))
  rw [hr1.1] at c2
  obtain ⟨i, hi, rfl⟩ := ixG c1 c2 (Nat.le_refl _)
  obtain ⟨l, hl, el⟩ := RF_8 hr1 hi
  refine sm_aI hm (k := 8) (n := 8) rfl rfl ⟨i, by omega, rfl⟩ (fun j hj ej => ?_)
  obtain rfl : j = i := ((nI_eq (show i < 2 ^ 31 by omega) (show j < 2 ^ 31 by omega)).mp ej).symm
  refine sm_i (fun c4 => ?_) (fun _ => bad)
  rw [el] at c4
  obtain ⟨k, hk, rfl⟩ := ixL c3 c4 (Nat.le_refl l)
  obtain ⟨o, n, b, sk, hob⟩ := mem_ob hr1 hi ⟨l, el, hl, hk⟩
  obtain ⟨q1, q2, q3, q4, q5, q6, q7⟩ := RF_ob hr1 hob
  have hx : ∃ q, q < 64 ∧ nI (8 * j + k) = nI q := ⟨_, q1, rfl⟩
  have hqq : ∀ j', nI (8 * j + k) = nI j' → j' < 64 → j' = 8 * j + k := fun j' ej hj => ((nI_eq (show 8 * j + k < 2 ^ 31 by omega) (show j' < 2 ^ 31 by omega)).mp ej).symm
  unfold f_M_list_47 f_M_list_71 f_M_list_75
  rw [ix8]
  refine sm_i (fun _ => sm_gR hm (c := 9) rfl (sm_i (fun _ => ?_) (fun hc => absurd rfl hc))) (fun hc => absurd rfl hc)
  refine sm_aI hm (k := 12) (n := 64) rfl rfl hx (fun j2 hj2 ej2 => ?_)
  obtain rfl := hqq j2 ej2 hj2
  rw [q4]
  refine sm_i (fun hsk => ?_) (fun _ => bad2 σ hf)
  have hskf : sk = false := by
    cases sk with
    | false => rfl
    | true => exact absurd hsk (by decide)
  have he := q7 hskf
  unfold f_M_list_80
  rw [ix8]
  refine sm_o hm (fun _ => sm_t0 hm hf (fun σ' hi' => sm_i (fun _ => ?_) (fun hc => absurd rfl hc)))
  refine sm_gR hm (c := 6) rfl (sm_aI hm (k := 9) (n := 64) rfl rfl hx (fun j3 hj3 ej3 => ?_))
  obtain rfl := hqq j3 ej3 hj3
  have e6 : gA σ 6 = gA σ0 6 := hf.2.2.1 6 (by decide)
  rw [(hi'.2.2.1 9 (by decide)).trans (hf.2.2.1 9 (by decide)).symm, q2]
  have hO : OBl σ0 o n := ⟨hr.2.2.1, q6, by rw [← e6, q5]; exact he⟩
  have hI0 : OWi σ0 (sI σ' 4 (nI 0)) 0 := by
    obtain ⟨c, _, w⟩ := OWe_0 ho hi'
    exact OWi_p w
  rw [Mp4 hm, bs]
  have hw := (eObj_0 hO.2.2).1
  refine sm_li_110 (M := oM (cb (gA σ0 6) o n)) hm (by omega) (w2_M hw) (fun σ c hI => ?_) (fun k hk1 hk => ?_) 64 1 F 0 _ rfl (by omega) (by omega) (by omega) hI0
  · have e := OWi_6 hI
    have hb : mb (mh m h σ) m (gA σ0 6) := by rw [← e]; exact Mmb hm (by rw [e]; exact hO.1)
    exact q_symbolMany hb (by omega) (w1_rk hw.1 q6) hw.1.2.1.1 (fun hY => by have := (hw.2 hY).2.1; omega)
  · exact li_sym (F := F) (m := m) (h := h) hm (by omega) hO hk1 hk
end MLJ
end
section
/-! the reference's near: safe (steps spelled out by sf/pp.py) -/
/-- the memory's names -/
def MNa (σ : px_S) : Prop := ∃ c, c ≤ 2800 ∧ gI σ 44 = nI c ∧ ∀ i, i < c → ∃ p l, gA σ 45 i = nI p ∧ gA σ 46 i = nI l ∧ l ≤ 20 ∧ p + l ≤ 65536
section MNR
variable {F m : Nat} {h : px_H} {σ0 σ : px_S}
theorem OWe_w {j : Nat} {v : Int32} (hI : OWe σ0 σ) : OWe σ0 (sA σ 3 (upd (gA σ 3) j v.toInt8.toInt32)) := by
  obtain ⟨c, hc, w⟩ := hI
  exact ⟨c, hc, OWi_w w⟩
theorem sm_say100_3 {p l : Nat} (hm : m ≤ h.length) (hl : l ≤ 20) (hp : p + l ≤ 65536) : ∀ (d j f : Nat) (σ : px_S), j + d = l → d < f → OWe σ0 σ → Sm m h (OWe σ0) Any (f_M_say_3 F f m (m + 68) (nI p) (nI l) (nI j) (mh m h σ)) := by
  intro d
  induction d with
  | zero =>
    intro j f σ hj hf hI
    obtain ⟨f, rfl⟩ : ∃ y, f = y + 1 := ⟨f - 1, by omega⟩
    unfold f_M_say_3 f_M_say_28
    rw [if_pos (nI_le (by omega) (by omega)), Mp4 hm, bs]
    obtain ⟨c, hc, w⟩ := hI
    exact sm_r any ⟨l, by omega, OWi_p w⟩
  | succ d ih =>
    intro j f σ hj hf hI
    obtain ⟨f, rfl⟩ : ∃ y, f = y + 1 := ⟨f - 1, by omega⟩
    unfold f_M_say_3
    rw [if_neg (nI_ge (by omega) (by omega)), Mr3 hm, bs, nI_add, Ma100 hm (by omega), bs, Ms3 hm (by omega), bs, nI_add]
    exact ih _ _ _ (by omega) (by omega) (OWe_w hI)
theorem near_89 {x : Int64} {a3 : Int32} {c : Nat} (hm : m ≤ h.length) (hF : 65540 < F) (hv : MV σ) (h3 : a3 = Int32.ofInt (-1) ∨ ∃ i, i < c ∧ a3 = nI i) (hc : c ≤ 2800) (hn : ∀ i, i < c → ∃ p l, gA σ 45 i = nI p ∧ gA σ 46 i = nI l ∧ l ≤ 20 ∧ p + l ≤ 65536) (hI : OWe σ0 σ) : Sm m h (OWe σ0) Any (f_M_near_89 F m x a3 (mh m h σ)) := by
  obtain ⟨r, hr, er, _⟩ := hv
  unfold f_M_near_89 f_M_near_101
  refine sm_o hm (fun _ => sm_x (sm_row_2 hm hr er r 0 F (Nat.zero_add _) (by omega)) ?_)
  rintro v _ _ rfl
  refine sm_i (fun _ => sm_r any hI) (fun _ => sm_i (fun h0 => ?_) (fun _ => sm_r any hI))
  rcases h3 with rfl | ⟨i, hi, rfl⟩
  · exact absurd h0 (by decide)
  · obtain ⟨p, l, e1, e2, hl, hp⟩ := hn i hi
    rw [Mr100 hm, bs, Mr45 hm, bs, Ma45 hm (by omega), bs, e1, Mr46 hm, bs, Ma46 hm (by omega), bs, e2]
    refine sm_o hm (fun _ => sm_x (sm_say100_3 (F := F) hm hl hp l 0 F _ (Nat.zero_add _) (by omega) hI) (fun v σ hv hi' => ?_))
    rw [Mr47 hm, bs, Ma47 hm (by omega), bs]
    exact sm_r any hi'
theorem near_10 {x : Int64} {c : Nat} (hm : m ≤ h.length) (hF : 65540 < F) (hv : MV σ) (hc : c ≤ 2800) (ec : gI σ 44 = nI c) (hn : ∀ i, i < c → ∃ p l, gA σ 45 i = nI p ∧ gA σ 46 i = nI l ∧ l ≤ 20 ∧ p + l ≤ 65536) (hI : OWe σ0 σ) : ∀ (d j f : Nat) (a3 : Int32), j + d = c → d < f → (a3 = Int32.ofInt (-1) ∨ ∃ i, i < c ∧ a3 = nI i) → Sm m h (OWe σ0) Any (f_M_near_10 F f m x a3 (nI j) (mh m h σ)) := by
  intro d
  induction d with
  | zero =>
    intro j f a3 hj hf h3
    obtain ⟨f, rfl⟩ : ∃ y, f = y + 1 := ⟨f - 1, by omega⟩
    unfold f_M_near_10
    rw [Mg44 hm, bs, ec, if_pos (nI_le (by omega) (by omega))]
    exact near_89 hm hF hv h3 hc hn hI
  | succ d ih =>
    intro j f a3 hj hf h3
    obtain ⟨f, rfl⟩ : ∃ y, f = y + 1 := ⟨f - 1, by omega⟩
    have go1 := ih (j + 1) f a3 (by omega) (by omega) h3
    have go2 := ih (j + 1) f (nI j) (by omega) (by omega) (Or.inr ⟨j, by omega, rfl⟩)
    unfold f_M_near_10 f_M_near_47 f_M_near_48 f_M_near_76 f_M_near_81 f_M_near_82
    rw [Mg44 hm, bs, ec, if_neg (nI_ge (by omega) (by omega)), Mr47 hm, bs, Ma47 hm (by omega), bs, nI_add]
    refine sm_i (fun _ => sm_i (fun _ => go1) (fun hc => absurd rfl hc)) (fun _ => ?_)
    rw [bs, Ma47 hm (by omega), bs]
    refine sm_i (fun _ => sm_i (fun _ => go1) (fun hc => absurd rfl hc)) (fun _ => ?_)
    refine sm_i (fun hc => absurd hc (by decide)) (fun _ => sm_i (fun _ => go2) (fun h0 => ?_))
    rcases h3 with rfl | ⟨i, hi, rfl⟩
    · exact absurd (show (Int32.ofInt (-1)) < 0 by decide) h0
    · rw [bs, Ma47 hm (by omega), bs, bs, Ma47 hm (by omega), bs]
      exact sm_i (fun _ => go1) (fun _ => go2)
theorem sm_near {x : Int64} (hm : m ≤ h.length) (hF : 65540 < F) (hv : MV σ0) (hn : MNa σ0) (ho : OUo σ0) : Sm m h (OWe σ0) Any (f_M_near F m x (mh m h σ0)) := by
  obtain ⟨c, hc, ec, hn⟩ := hn
  unfold f_M_near
  rw [Mp0 hm, bs]
  have hf : FR [0] [] [] [] σ0 (sI σ0 0 (nI 0)) := FR_I _ _ _
  exact near_10 hm hF (MV_0 hv hf) hc ec hn (OWe_0 ho hf) c 0 F _ (Nat.zero_add _) (by omega) (Or.inl rfl)
end MNR
end
section
/-! the reference boots: what is tried (steps spelled out by sf/pp.py) -/
section MBO
variable {F m : Nat} {h : px_H} {σ0 σ : px_S}
theorem sm_sJW {I I1 : px_S → Prop} {α : Type} {V : α → Prop} {f : px_H → Option (α × px_H)} {c k t n j : Nat} {v : Int64} (hm : m ≤ h.length) (hr : mr k = (3, c, t, n)) (hj : j < n) (hI : I1 (sB σ k (vp_updL (gB σ k) j v))) (g : ∀ σ, I1 σ → Sm m h I V (f (mh m h σ))) : Sm m h I V ((xsJ (mh m h σ) t (m + c) (nI j) v).bind f) := by
  have e := e_sJ (σ := σ) (k := k) (i := j) hm (by rw [hr]) (by rw [hr]; exact hj) v
  rw [hr] at e
  rw [e, bs]; exact g _ hI
theorem t_num_7 {p : Nat} (hm : m ≤ h.length) : ∀ (d f w : Nat), d < f → p + d ≤ 65536 → (w + 1) * 256 ^ d ≤ 2 ^ 64 → ∃ x, x < (w + 1) * 256 ^ d ∧ f_M_triedNum_7 F f m (nI p) (lN w) (nI d - nI 1) (mh m h σ) = some (lN x, mh m h σ) := by
  intro d
  induction d with
  | zero =>
    intro f w hf _ _
    obtain ⟨f, rfl⟩ : ∃ x, f = x + 1 := ⟨f - 1, by omega⟩
    unfold f_M_triedNum_7 f_M_triedNum_38
    exact ⟨w, by omega, by rw [if_pos (by decide)]⟩
  | succ d ih =>
    intro f w hf hd hm2
    obtain ⟨f, rfl⟩ : ∃ x, f = x + 1 := ⟨f - 1, by omega⟩
    rw [Nat.pow_succ, Nat.mul_comm (256 ^ d) 256, ← Nat.mul_assoc] at hm2
    have h1 : 1 ≤ 256 ^ d := Nat.pos_of_ne_zero (by simp)
    have h2 : (w + 1) * 256 ≤ (w + 1) * 256 * 256 ^ d := Nat.le_mul_of_pos_right _ h1
    rw [pk_sub (by omega), Nat.add_sub_cancel]
    have hb := b8_lt (gA σ 99 (p + d))
    have h3 : (w * 256 + b8 (gA σ 99 (p + d)) + 1) * 256 ^ d ≤ (w + 1) * 256 * 256 ^ d := Nat.mul_le_mul_right _ (by omega)
    unfold f_M_triedNum_7
    rw [if_neg (nI_pos (by omega)), Mr99 hm, bs, nI_add, Ma99 hm (by omega), bs, nI_back, sh_byte w _ (by omega)]
    obtain ⟨x, hx, e⟩ := ih f (w * 256 + b8 (gA σ 99 (p + d))) (by omega) (by omega) (by omega)
    refine ⟨x, ?_, e⟩
    rw [Nat.pow_succ, Nat.mul_comm (256 ^ d) 256, ← Nat.mul_assoc]
    omega
theorem t_num {p k : Nat} (hm : m ≤ h.length) (hF : 8 < F) (hk : k ≤ 8) (hp : p + k ≤ 65536) : ∃ x, x < 256 ^ k ∧ f_M_triedNum F m (nI p) (nI k) (mh m h σ) = some (lN x, mh m h σ) := by
  have hp' : 256 ^ k ≤ 256 ^ 8 := Nat.pow_le_pow_right (by decide) hk
  obtain ⟨x, hx, e⟩ := t_num_7 (F := F) (σ := σ) (p := p) hm k F 0 (by omega) hp (by omega)
  exact ⟨x, by omega, e⟩
theorem sm_tn {I : px_S → Prop} {α : Type} {V : α → Prop} {f : Int64 → px_H → Option (α × px_H)} {p k : Nat} (hm : m ≤ h.length) (hF : 8 < F) (hk : k ≤ 8) (hp : p + k ≤ 65536) (g : ∀ x, x < 256 ^ k → Sm m h I V (f (lN x) (mh m h σ))) : Sm m h I V (xb (f_M_triedNum F m (nI p) (nI k) (mh m h σ)) f) := by
  obtain ⟨x, hx, e⟩ := t_num (F := F) (σ := σ) (p := p) (k := k) hm hF hk hp
  rw [e, xb_mk]; exact g x hx
theorem sm_isExe {s : Nat} (hm : m ≤ h.length) (hF : 8 < F) (es : gI σ 101 = nI s) (hs : s ≤ 65536) : Sm m h (fun σ' => σ' = σ) (fun v => v = nI 0 ∨ (v = nI 1 ∧ 64 ≤ s)) (f_M_isExecutable F m (mh m h σ)) := by
  have z0 : Sm m h (fun σ' => σ' = σ) (fun v => v = nI 0 ∨ (v = nI 1 ∧ 64 ≤ s)) (xz (nI 0) (mh m h σ)) := sm_z ⟨false, rfl⟩ (Or.inl rfl) rfl
  unfold f_M_isExecutable f_M_isExecutable_55 f_M_isExecutable_56 f_M_isExecutable_91 f_M_isExecutable_92
  refine sm_gI hm rfl (sm_i (fun _ => ?_) (fun hc => ?_))
  · exact sm_i (fun _ => z0) (fun hc => absurd rfl hc)
  · rw [es] at hc
    have h64 : 64 ≤ s := Nat.lt_of_not_le (fun w => hc (nI_le w (by omega)))
    have z1 : Sm m h (fun σ' => σ' = σ) (fun v => v = nI 0 ∨ (v = nI 1 ∧ 64 ≤ s)) (xz (nI 1) (mh m h σ)) := sm_z ⟨true, rfl⟩ (Or.inr ⟨rfl, h64⟩) rfl
    repeat' (first | (exact z0) | (exact z1) | ((with_reducible refine sm_tn hm hF ?_ ?_ (fun x hx => ?_)); decide; decide) | exact absurd (show nI 0 = 0 from rfl) (by assumption) | exact absurd (show nI 1 = 0 by assumption) (by decide) | ((with_reducible refine sm_i (fun hc => ?_) (fun hc => ?_))) | ((with_reducible refine sm_gI hm (by with_unfolding_all exact rfl) ?_)) | ((with_reducible refine sm_gJ hm (by with_unfolding_all exact rfl) ?_)) | ((with_reducible refine sm_gR hm (by with_unfolding_all exact rfl) ?_)) | ((with_reducible refine sm_o hm (fun l => ?_))) | ((with_reducible refine sm_r ?_ ?_); (first | exact any | assumption | first | exact ⟨false, rfl⟩ | exact ⟨true, rfl⟩ | assumption); assumption) | ((with_reducible refine sm_z ?_ ?_ ?_); (first | exact ⟨false, rfl⟩ | exact ⟨true, rfl⟩ | assumption); (first | exact any | exact ⟨false, rfl⟩ | exact ⟨true, rfl⟩ | assumption); assumption))
end MBO
end
section
/-! the reference boots: the rows that are tried (steps spelled out by sf/pp.py) -/
/-- r rows were tried and found good -/
def TRi (σ0 σ : px_S) (r : Nat) : Prop := FR [0, 115] [] [] [110, 111, 112, 113, 114] σ0 σ ∧ gI σ 115 = nI r ∧ ∀ i, i < r → ∃ s p fz, gB σ 112 i = lN s ∧ s ≤ 2 ^ 48 ∧ gB σ 111 i = lN p ∧ gB σ 113 i = lN fz ∧ p + fz ≤ 65536
section MRW
variable {F m : Nat} {h : px_H} {σ0 σ : px_S} {r : Nat}
theorem st_47 {x : Nat} (hx : x < 2 ^ 64) (h1 : ¬ lN x < lN 0) (h2 : ¬ (140737488355328 : Int64) < lN x) : x ≤ 2 ^ 48 := by
  by_cases c : x < 2 ^ 63
  · have : ¬ (140737488355328 : Int64).toInt < (lN x).toInt := fun w => h2 (Int64.lt_iff_toInt_lt.mpr w)
    rw [lN_T3 c] at this
    have e : (140737488355328 : Int64).toInt = 140737488355328 := by decide
    rw [e] at this
    omega
  · exfalso
    apply h1
    apply Int64.lt_iff_toInt_lt.mpr
    rw [lN_Tn (by omega) hx, lN_T3 (show 0 < 2 ^ 63 by decide)]
    omega
theorem sm_re_195 {P x1 x3 x5 : Nat} {a8 : Int64} (hm : m ≤ h.length) (hF : 8 < F) (hP : P + 56 ≤ 65536) (hr : r < 8) (h3 : x3 ≤ 2 ^ 48) (h15 : x1 + x5 ≤ 65536) (hI : TRi σ0 σ r) : Sm m h (fun σ' => TRi σ0 σ' (r + 1)) Any (f_M_rowError_195 F m (nI P) (lN x1) (lN x3) (lN x5) a8 (mh m h σ)) := by
  obtain ⟨hf, er, ht⟩ := hI
  unfold f_M_rowError_195
  rw [Mr110 hm, bs, Mg115 hm, bs, er, e_o hm, bs, nI_add]
  refine sm_tn hm hF (by decide) (by omega) (fun x hx => ?_)
  rw [Ms110 hm hr, bs, Mr111 hm, bs, Mg115 hm, bs, gI_sB, er, Ms111 hm hr, bs, Mr112 hm, bs, Mg115 hm, bs, gI_sB, gI_sB, er, Ms112 hm hr, bs, Mr113 hm, bs, Mg115 hm, bs, gI_sB, gI_sB, gI_sB, er, Ms113 hm hr, bs, Mr114 hm, bs, Mg115 hm, bs, gI_sB, gI_sB, gI_sB, gI_sB, er, Ms114 hm hr, bs, Mg115 hm, bs, gI_sB, gI_sB, gI_sB, gI_sB, gI_sB, er, nI_add, Mp115 hm, bs]
  have fB : ∀ (τ : px_S) (k : Nat) (g : Nat → Int64), k ∈ [110, 111, 112, 113, 114] → FR [0, 115] [] [] [110, 111, 112, 113, 114] σ0 τ → FR [0, 115] [] [] [110, 111, 112, 113, 114] σ0 (sB τ k g) := fun τ k g hk w => FR_trans w (FR_mono (FR_B _ _ _) (by simp) (by simp) (by simp) (fun i hi => by rw [List.mem_singleton.mp hi]; exact hk))
  refine sm_r any ⟨FR_trans (fB _ _ _ (by decide) (fB _ _ _ (by decide) (fB _ _ _ (by decide) (fB _ _ _ (by decide) (fB _ _ _ (by decide) hf))))) (FR_mono (FR_I _ _ _) (by decide) (by decide) (by decide) (by decide)), by rw [gI_sI, if_pos rfl], fun i hi => ?_⟩
  simp only [gB_sI, gB_sB]
  by_cases c : i = r
  · subst c
    exact ⟨x3, x1, x5, by simp [vp_eq], h3, by simp [vp_eq], by simp [vp_eq], h15⟩
  · obtain ⟨s, p, fz, e1, e2, e3, e4, e5⟩ := ht i (by omega)
    exact ⟨s, p, fz, by simp [vp_ne c, e1], e2, by simp [vp_ne c, e3], by simp [vp_ne c, e4], e5⟩
theorem sm_rowErr {P s : Nat} (hm : m ≤ h.length) (hF : 8 < F) (hs : s ≤ 65536) (es : gI σ0 101 = nI s) (hP : P + 56 ≤ s) (hr : r < 8) (hI : TRi σ0 σ r) : Sm m h (fun σ' => ∃ r', r' ≤ r + 1 ∧ TRi σ0 σ' r') Any (f_M_rowError F m (nI P) (mh m h σ)) := by
  have e101 : gI σ 101 = nI s := (hI.1.1 101 (by decide)).trans es
  have fin : ∀ {v : Int32}, Sm m h (fun σ' => ∃ r', r' ≤ r + 1 ∧ TRi σ0 σ' r') Any (some (v, mh m h σ)) := sm_r any ⟨r, by omega, hI⟩
  unfold f_M_rowError
  rw [nI_add, nI_add, nI_add, nI_add, nI_add]
  refine sm_o hm (fun _ => sm_tn hm hF (by decide) (by omega) (fun x1 hx1 => sm_o hm (fun _ => sm_tn hm hF (by decide) (by omega) (fun x3 hx3 => ?_))))
  refine sm_o hm (fun _ => sm_tn hm hF (by decide) (by omega) (fun x5 hx5 => sm_o hm (fun _ => sm_tn hm hF (by decide) (by omega) (fun x7 hx7 => ?_))))
  refine sm_o hm (fun _ => sm_tn hm hF (by decide) (by omega) (fun x9 hx9 => sm_gI hm rfl ?_))
  rw [e101, nI_l (by omega), q_lies (by omega) (by omega) (by omega), xb_mk]
  refine sm_i (fun _ => fin) (fun hl => ?_)
  have h15 : x1 + x5 ≤ s := by
    by_cases c : x1 + x5 ≤ s
    · exact c
    · rw [decide_eq_false c] at hl; exact absurd rfl hl
  have go : ¬ lN x3 < lN 0 → ¬ (140737488355328 : Int64) < lN x3 → Sm m h (fun σ' => ∃ r', r' ≤ r + 1 ∧ TRi σ0 σ' r') Any (f_M_rowError_157 F m (nI P) (lN x1) (lN x3) (lN x5) (lN x7) (mh m h σ)) := fun c1 c2 => by
    have h195 : Sm m h (fun σ' => ∃ r', r' ≤ r + 1 ∧ TRi σ0 σ' r') Any (f_M_rowError_195 F m (nI P) (lN x1) (lN x3) (lN x5) (lN x7) (mh m h σ)) := sm_wI (sm_re_195 hm hF (by omega) hr (st_47 (by omega) c1 c2) (by omega) hI) (fun σ' w => ⟨r + 1, by omega, w⟩)
    unfold f_M_rowError_157
    rw [Mg115 hm, bs, hI.2.1]
    refine sm_i (fun _ => h195) (fun hc => ?_)
    have h1r : 1 ≤ r := by
      apply Nat.pos_of_ne_zero
      intro e
      rw [e] at hc
      exact hc (by decide)
    rw [Mr112 hm, bs, bs, pk_sub h1r, Ma112 hm (by omega), bs, Mr114 hm, bs, bs, pk_sub h1r, Ma114 hm (by omega), bs]
    exact sm_i (fun _ => h195) (fun _ => fin)
  unfold f_M_rowError_92 f_M_rowError_132
  repeat' (first | (exact fin) | (exact go (by assumption) (by assumption)) | exact absurd (show nI 0 = 0 from rfl) (by assumption) | exact absurd (show nI 1 = 0 by assumption) (by decide) | ((with_reducible refine sm_i (fun hc => ?_) (fun hc => ?_))) | ((with_reducible refine sm_gI hm (by with_unfolding_all exact rfl) ?_)) | ((with_reducible refine sm_gJ hm (by with_unfolding_all exact rfl) ?_)) | ((with_reducible refine sm_gR hm (by with_unfolding_all exact rfl) ?_)) | ((with_reducible refine sm_o hm (fun l => ?_))) | ((with_reducible refine sm_r ?_ ?_); (first | exact any | assumption | first | exact ⟨false, rfl⟩ | exact ⟨true, rfl⟩ | assumption); assumption) | ((with_reducible refine sm_z ?_ ?_ ?_); (first | exact ⟨false, rfl⟩ | exact ⟨true, rfl⟩ | assumption); (first | exact any | exact ⟨false, rfl⟩ | exact ⟨true, rfl⟩ | assumption); assumption))
end MRW
end
section
/-! the reference boots: the executable that is tried (steps spelled out by sf/pp.py) -/
section MTR
variable {F m : Nat} {h : px_H} {σ0 σ : px_S} {r : Nat}
def TRx (σ0 σ : px_S) : Prop := ∃ r, r ≤ 8 ∧ TRi σ0 σ r
theorem sm_te_128 {x : Int64} (hm : m ≤ h.length) (hr : r ≤ 8) (hI : TRi σ0 σ r) : ∀ (d j f : Nat), j + d = r → d < f → Sm m h (TRx σ0) Any (f_M_triedError_128 F f m x (nI j) (mh m h σ)) := by
  have fin : ∀ {v : Int32}, Sm m h (TRx σ0) Any (some (v, mh m h σ)) := sm_r any ⟨r, hr, hI⟩
  intro d
  induction d with
  | zero =>
    intro j f hj hf
    obtain ⟨f, rfl⟩ : ∃ y, f = y + 1 := ⟨f - 1, by omega⟩
    unfold f_M_triedError_128 f_M_triedError_193
    rw [Mg115 hm, bs, hI.2.1, if_pos (nI_le (by omega) (by omega))]
    exact fin
  | succ d ih =>
    intro j f hj hf
    obtain ⟨f, rfl⟩ : ∃ y, f = y + 1 := ⟨f - 1, by omega⟩
    have go := ih (j + 1) f (by omega) (by omega)
    unfold f_M_triedError_128 f_M_triedError_193 f_M_triedError_187 f_M_triedError_185
    rw [Mg115 hm, bs, hI.2.1, if_neg (nI_ge (by omega) (by omega)), Mr110 hm, bs, Ma110 hm (by omega), bs, nI_add]
    refine sm_i (fun _ => ?_) (fun _ => go)
    rw [Mr112 hm, bs, Ma112 hm (by omega), bs]
    refine sm_i (fun _ => go) (fun _ => ?_)
    rw [bs, Ma112 hm (by omega), bs, Mr114 hm, bs, Ma114 hm (by omega), bs]
    exact sm_i (fun _ => go) (fun _ => fin)
theorem sm_te_61 {x s N : Nat} (hm : m ≤ h.length) (hF : 65540 < F) (hs : s ≤ 65536) (h64 : 64 ≤ s) (es : gI σ0 101 = nI s) (hN : N ≤ 8) (hx : x + 56 * N ≤ s) : ∀ (d j f : Nat) (σ : px_S), j + d = N → d < f → (∃ r, r ≤ j ∧ TRi σ0 σ r) → Sm m h (TRx σ0) Any (f_M_triedError_61 F f m (nI N) (lN x) (nI j) (mh m h σ)) := by
  intro d
  induction d with
  | zero =>
    intro j f σ hj hf hI
    obtain ⟨f, rfl⟩ : ∃ y, f = y + 1 := ⟨f - 1, by omega⟩
    obtain ⟨r, hr, hI⟩ := hI
    unfold f_M_triedError_61 f_M_triedError_115
    rw [if_pos (nI_le (by omega) (by omega))]
    exact sm_o hm (fun _ => sm_tn hm (by omega) (by decide) (by decide) (fun x hx => sm_te_128 hm (by omega) hI r 0 F (Nat.zero_add _) (by omega)))
  | succ d ih =>
    intro j f σ hj hf hI
    obtain ⟨f, rfl⟩ : ∃ y, f = y + 1 := ⟨f - 1, by omega⟩
    obtain ⟨r, hr, hI⟩ := hI
    unfold f_M_triedError_61 f_M_triedError_99 f_M_triedError_106
    rw [if_neg (nI_ge (by omega) (by omega)), lN_i, show nI 56 * nI j = nI (56 * j) from (Int32.ofNat_mul 56 j).symm, nI_add, nI_add]
    refine sm_o hm (fun _ => sm_tn hm (by omega) (by decide) (by omega) (fun x1 hx1 => sm_i (fun _ => ?_) (fun _ => ?_)))
    · refine sm_o hm (fun _ => sm_x (sm_rowErr (P := x + 56 * j) hm (by omega) hs es (by omega) (by omega) hI) (fun v σ hv hi => ?_))
      obtain ⟨r', hr', hI'⟩ := hi
      exact sm_i (fun _ => ih _ _ _ (by omega) (by omega) ⟨r', by omega, hI'⟩) (fun _ => sm_r any ⟨r', by omega, hI'⟩)
    · exact sm_i (fun _ => ih _ _ _ (by omega) (by omega) ⟨r, by omega, hI⟩) (fun hc => absurd (show nI 0 ≤ 0 by decide) hc)
theorem sm_triedErr {s : Nat} (hm : m ≤ h.length) (hF : 65540 < F) (hs : s ≤ 65536) (es : gI σ0 101 = nI s) : Sm m h (TRx σ0) (fun v => v ≤ 0 → 64 ≤ s) (f_M_triedError F m (mh m h σ0)) := by
  have hI0 : TRi σ0 (sI σ0 115 (nI 0)) 0 := ⟨FR_mono (FR_I _ _ _) (by decide) (by decide) (by decide) (by decide), by rw [gI_sI, if_pos rfl], fun i hi => absurd hi (Nat.not_lt_zero i)⟩
  have fin : ∀ {v : Int32}, (¬ v ≤ 0 ∨ 64 ≤ s) → Sm m h (TRx σ0) (fun v => v ≤ 0 → 64 ≤ s) (some (v, mh m h (sI σ0 115 (nI 0)))) := fun {v} hv => sm_r (fun w => hv.elim (fun x => absurd w x) id) ⟨0, by decide, hI0⟩
  unfold f_M_triedError f_M_triedError_56
  rw [Mp115 hm, bs]
  refine sm_o hm (fun _ => sm_x (sm_isExe (s := s) hm (by omega) (by rw [gI_sI, if_neg (by decide)]; exact es) hs) ?_)
  rintro v _ hv rfl
  refine sm_i (fun _ => fin (Or.inl (by decide))) (fun hc => ?_)
  rcases hv with rfl | ⟨rfl, h64⟩
  · exact absurd rfl hc
  · refine sm_o hm (fun _ => sm_tn hm (by omega) (by decide) (by decide) (fun x1 hx1 => sm_o hm (fun _ => sm_tn hm (by omega) (by decide) (by decide) (fun x2 hx2 => ?_))))
    rw [lN_i]
    refine sm_i (fun _ => fin (Or.inl (by decide))) (fun hc => sm_gI hm rfl ?_)
    have h8 : x1 ≤ 8 := Nat.le_of_not_lt (fun w => hc (nI_lt w (by omega)))
    rw [gI_sI, if_neg (by decide), es, nI_l (by omega), nI_l (by omega), show (56 : Int64) * lN x1 = lN (56 * x1) from (Int64.ofNat_mul 56 x1).symm, q_lies (by omega) (by omega) (by omega), xb_mk]
    refine sm_i (fun _ => fin (Or.inl (by decide))) (fun hl => ?_)
    have hx : x2 + 56 * x1 ≤ s := by
      by_cases c : x2 + 56 * x1 ≤ s
      · exact c
      · rw [decide_eq_false c] at hl; exact absurd rfl hl
    obtain ⟨v, σ, e, _, hI⟩ := sm_te_61 (F := F) (σ0 := σ0) (x := x2) (s := s) (N := x1) hm hF hs h64 es h8 hx x1 0 F _ (Nat.zero_add _) (by omega) ⟨0, Nat.le_refl _, hI0⟩
    exact ⟨v, σ, e, fun _ => h64, hI⟩
end MTR
end
section
/-! the reference boots: the memory's names (steps spelled out by sf/pp.py) -/
/-- c names were found -/
def MNi (σ0 σ : px_S) (c : Nat) : Prop := FR [44] [] [45, 46] [47] σ0 σ ∧ gI σ 44 = nI c ∧ ∀ i, i < c → ∃ p l, gA σ 45 i = nI p ∧ gA σ 46 i = nI l ∧ l ≤ 20 ∧ p + l ≤ 65536
section MMN
variable {F m : Nat} {h : px_H} {σ0 σ : px_S} {c : Nat}
theorem sm_ms_94 {P np ns x j : Nat} (hm : m ≤ h.length) (hF : 8 < F) (hP : P + 24 ≤ 65536) (hc : c < 2800) (hx : x < 2 ^ 32) (hj : j ≤ 21) (hnp : np + ns ≤ 65536) (hI : MNi σ0 σ c) : Sm m h (fun σ' => ∃ c', c' ≤ c + 1 ∧ MNi σ0 σ' c') Any (f_M_memorySymbol_94 F m (nI P) (lN np) (lN ns) (lN x) (nI j) (mh m h σ)) := by
  have fin : Sm m h (fun σ' => ∃ c', c' ≤ c + 1 ∧ MNi σ0 σ' c') Any (some ((), mh m h σ)) := sm_r any ⟨c, by omega, hI⟩
  obtain ⟨hf, ec, hn⟩ := id hI
  unfold f_M_memorySymbol_94 f_M_memorySymbol_118
  refine sm_i (fun _ => fin) (fun c1 => sm_i (fun _ => fin) (fun c2 => sm_i (fun c3 => ?_) (fun _ => fin)))
  rw [nI_l (by omega), lN_add, pk_lLE (by omega) (by omega)] at c1
  have hj20 : j ≤ 20 := Nat.le_of_not_lt (fun w => absurd c3 (nI_ge w (by omega)))
  rw [lN_add, lN_i, Mr45 hm, bs, Mg44 hm, bs, ec, Ms45 hm hc, bs, Mr46 hm, bs, Mg44 hm, bs, gI_sA, ec, Ms46 hm hc, bs, Mr47 hm, bs, Mg44 hm, bs, gI_sA, gI_sA, ec, nI_add]
  refine sm_o hm (fun _ => sm_tn hm hF (by decide) (by omega) (fun y hy => ?_))
  rw [Ms47 hm hc, bs, Mg44 hm, bs, gI_sB, gI_sA, gI_sA, ec, nI_add, Mp44 hm, bs]
  refine sm_r any ⟨c + 1, Nat.le_refl _, FR_trans (FR_trans (FR_trans (FR_trans hf (FR_mono (FR_A _ _ _) (by decide) (by decide) (by decide) (by decide))) (FR_mono (FR_A _ _ _) (by decide) (by decide) (by decide) (by decide))) (FR_mono (FR_B _ _ _) (by decide) (by decide) (by decide) (by decide))) (FR_mono (FR_I _ _ _) (by decide) (by decide) (by decide) (by decide)), by rw [gI_sI, if_pos rfl], fun i hi => ?_⟩
  simp only [gA_sI, gA_sB, gA_sA]
  by_cases e : i = c
  · subst e
    exact ⟨np + x, j, by simp [upd], by simp [upd], hj20, by omega⟩
  · obtain ⟨p, l, e1, e2, e3, e4⟩ := hn i (by omega)
    exact ⟨p, l, by simp [upd, e, e1], by simp [upd, e, e2], e3, e4⟩
theorem sm_ms_53 {P np ns x : Nat} (hm : m ≤ h.length) (hF : 65540 < F) (hP : P + 24 ≤ 65536) (hc : c < 2800) (hx : x < 2 ^ 32) (hnp : np + ns ≤ 65536) (hI : MNi σ0 σ c) : ∀ (d j f : Nat), j + d = 21 → d < f → Sm m h (fun σ' => ∃ c', c' ≤ c + 1 ∧ MNi σ0 σ' c') Any (f_M_memorySymbol_53 F f m (nI P) (lN np) (lN ns) (lN x) (nI j) (mh m h σ)) := by
  intro d
  induction d with
  | zero =>
    intro j f hj hf
    obtain ⟨f, rfl⟩ : ∃ y, f = y + 1 := ⟨f - 1, by omega⟩
    unfold f_M_memorySymbol_53
    refine sm_i (fun _ => sm_ms_94 hm (by omega) hP hc hx (by omega) hnp hI) (fun _ => ?_)
    rw [if_pos (nI_lt (by omega) (by omega))]
    exact sm_ms_94 hm (by omega) hP hc hx (by omega) hnp hI
  | succ d ih =>
    intro j f hj hf
    obtain ⟨f, rfl⟩ : ∃ y, f = y + 1 := ⟨f - 1, by omega⟩
    have h94 := sm_ms_94 (F := F) (j := j) hm (by omega) hP hc hx (by omega) hnp hI
    have go := ih (j + 1) f (by omega) (by omega)
    unfold f_M_memorySymbol_53
    refine sm_i (fun _ => h94) (fun c1 => ?_)
    rw [nI_l (by omega), lN_add, pk_lLE (by omega) (by omega)] at c1
    rw [if_neg (nI_nlt (by omega) (by omega)), Mr99 hm, bs, lN_add, lN_i, nI_add, Ma99 hm (by omega), bs, nI_add]
    exact sm_i (fun _ => h94) (fun _ => go)
theorem sm_msym {P np ns : Nat} (hm : m ≤ h.length) (hF : 65540 < F) (hP : P + 24 ≤ 65536) (hc : c < 2800) (hnp : np + ns ≤ 65536) (hI : MNi σ0 σ c) : Sm m h (fun σ' => ∃ c', c' ≤ c + 1 ∧ MNi σ0 σ' c') Any (f_M_memorySymbol F m (nI P) (lN np) (lN ns) (mh m h σ)) := by
  have fin : Sm m h (fun σ' => ∃ c', c' ≤ c + 1 ∧ MNi σ0 σ' c') Any (some ((), mh m h σ)) := sm_r any ⟨c, by omega, hI⟩
  unfold f_M_memorySymbol f_M_memorySymbol_35 f_M_memorySymbol_49
  rw [Mr99 hm, bs, nI_add, Ma99 hm (by omega), bs, nI_add]
  refine sm_o hm (fun _ => sm_tn hm (by omega) (by decide) (by omega) (fun x hx => ?_))
  have h53 := sm_ms_53 (F := F) (x := x) hm hF hP hc (by omega) hnp hI 21 0 F rfl (by omega)
  have t35 : Sm m h (fun σ' => ∃ c', c' ≤ c + 1 ∧ MNi σ0 σ' c') Any ((xo (mh m h σ) 12 m).bind fun _ => xb (f_M_triedNum F m (nI (P + 6)) (nI 2) (mh m h σ)) fun t1 ph2 => if t1 = lN 0 then some ((), ph2) else f_M_memorySymbol_53 F F m (nI P) (lN np) (lN ns) (lN x) (nI 0) ph2) := sm_o hm (fun _ => sm_tn hm (by omega) (by decide) (by omega) (fun y hy => sm_i (fun _ => fin) (fun _ => h53)))
  exact sm_i (fun _ => t35) (fun _ => sm_i (fun _ => t35) (fun _ => fin))
theorem sm_fm_273 {sp z np ns : Nat} (hm : m ≤ h.length) (hF : 65540 < F) (hsp : sp + z ≤ 65536) (hnp : np + ns ≤ 65536) : ∀ (d j f : Nat) (σ : px_S), j + d = 2731 → 1 ≤ j → d < f → (∃ c, c ≤ j ∧ MNi σ0 σ c) → Sm m h (fun σ' => ∃ c, c ≤ 2800 ∧ MNi σ0 σ' c) Any (f_M_findMemoryNames_273 F f m (lN sp) (lN z) (lN np) (lN ns) (nI j) (mh m h σ)) := by
  have ez : (lN z / (24 : Int64)).toInt32 = nI (z / 24) := by rw [lk, pk_lDiv (by omega) (by decide) (by decide), lN_i]
  intro d
  induction d with
  | zero =>
    intro j f σ hj hj1 hf hI
    obtain ⟨f, rfl⟩ : ∃ y, f = y + 1 := ⟨f - 1, by omega⟩
    obtain ⟨c, hc, hI⟩ := hI
    unfold f_M_findMemoryNames_273 f_M_findMemoryNames_308
    rw [ez, if_pos (nI_le (by omega) (by omega))]
    exact sm_r any ⟨c, by omega, hI⟩
  | succ d ih =>
    intro j f σ hj hj1 hf hI
    obtain ⟨f, rfl⟩ : ∃ y, f = y + 1 := ⟨f - 1, by omega⟩
    obtain ⟨c, hc, hI⟩ := hI
    unfold f_M_findMemoryNames_273 f_M_findMemoryNames_308
    rw [ez, lN_i, show nI 24 * nI j = nI (24 * j) from (Int32.ofNat_mul 24 j).symm, nI_add, nI_add]
    by_cases hz : z / 24 ≤ j
    · rw [if_pos (nI_le hz (by omega))]
      exact sm_r any ⟨c, by omega, hI⟩
    · rw [if_neg (nI_ge (by omega) (by omega))]
      refine sm_o hm (fun _ => sm_x (sm_msym (P := sp + 24 * j) hm hF (by omega) (by omega) hnp hI) (fun v σ hv hi => ?_))
      obtain ⟨c', hc', hI'⟩ := hi
      exact ih _ _ _ (by omega) (by omega) (by omega) ⟨c', by omega, hI'⟩
end MMN
end
section
/-! the reference boots, whole (steps spelled out by sf/pp.py) -/
section MBW
variable {F m : Nat} {h : px_H} {σ0 σ : px_S} {s : Nat}
theorem sm_fm_104 {x n j : Nat} (hm : m ≤ h.length) (hF : 65540 < F) (hs : s ≤ 65536) (es : gI σ0 101 = nI s) (hn : n ≤ 24) (hx : x + 64 * n ≤ s) (hj : j ≤ n) (hI : MNi σ0 σ 0) : Sm m h (fun σ' => ∃ c, c ≤ 2800 ∧ MNi σ0 σ' c) Any (f_M_findMemoryNames_104 F m (nI n) (lN x) (nI j) (mh m h σ)) := by
  have fin : Sm m h (fun σ' => ∃ c, c ≤ 2800 ∧ MNi σ0 σ' c) Any (some ((), mh m h σ)) := sm_r any ⟨0, by decide, hI⟩
  have e101 : gI σ 101 = nI s := (hI.1.1 101 (by decide)).trans es
  unfold f_M_findMemoryNames_104 f_M_findMemoryNames_200 f_M_findMemoryNames_269
  refine sm_i (fun _ => fin) (fun hne => ?_)
  have hjn : j < n := by
    apply Nat.lt_of_le_of_ne hj
    intro e
    exact hne (by rw [e])
  rw [lN_i, show nI 64 * nI j = nI (64 * j) from (Int32.ofNat_mul 64 j).symm, nI_add, nI_add, nI_add, nI_add]
  refine sm_o hm (fun _ => sm_tn hm (by omega) (by decide) (by omega) (fun sp hsp => sm_o hm (fun _ => sm_tn hm (by omega) (by decide) (by omega) (fun z hz => ?_))))
  refine sm_o hm (fun _ => sm_tn hm (by omega) (by decide) (by omega) (fun l hl => sm_i (fun _ => fin) (fun _ => sm_i (fun _ => ?_) (fun _ => fin))))
  refine sm_i (fun _ => fin) (fun hln => sm_gI hm rfl ?_)
  rw [nI_l (by omega), pk_lLE (by omega) (by omega)] at hln
  rw [e101, nI_l (by omega), q_lies (by omega) (by omega) (by omega), xb_mk]
  refine sm_i (fun _ => fin) (fun hl1 => ?_)
  have h1 : sp + z ≤ s := by
    by_cases c : sp + z ≤ s
    · exact c
    · rw [decide_eq_false c] at hl1; exact absurd rfl hl1
  rw [lN_i, show nI 64 * nI l = nI (64 * l) from (Int32.ofNat_mul 64 l).symm, nI_add, nI_add, nI_add, nI_add]
  refine sm_o hm (fun _ => sm_tn hm (by omega) (by decide) (by omega) (fun np hnp => sm_o hm (fun _ => sm_tn hm (by omega) (by decide) (by omega) (fun ns hns => ?_))))
  refine sm_o hm (fun _ => sm_tn hm (by omega) (by decide) (by omega) (fun t ht => sm_i (fun _ => sm_gI hm rfl ?_) (fun _ => fin)))
  rw [e101, nI_l (by omega), q_lies (by omega) (by omega) (by omega), xb_mk]
  refine sm_i (fun _ => fin) (fun hl2 => ?_)
  have h2 : np + ns ≤ s := by
    by_cases c : np + ns ≤ s
    · exact c
    · rw [decide_eq_false c] at hl2; exact absurd rfl hl2
  exact sm_fm_273 hm hF (by omega) (by omega) 2730 1 F σ rfl (by omega) (by omega) ⟨0, by omega, hI⟩
theorem sm_fm_70 {x n : Nat} (hm : m ≤ h.length) (hF : 65540 < F) (hs : s ≤ 65536) (es : gI σ0 101 = nI s) (hn : n ≤ 24) (hx : x + 64 * n ≤ s) (hI : MNi σ0 σ 0) : ∀ (d j f : Nat), j + d = n → d < f → Sm m h (fun σ' => ∃ c, c ≤ 2800 ∧ MNi σ0 σ' c) Any (f_M_findMemoryNames_70 F f m (nI n) (lN x) (nI j) (mh m h σ)) := by
  intro d
  induction d with
  | zero =>
    intro j f hj hf
    obtain ⟨f, rfl⟩ : ∃ y, f = y + 1 := ⟨f - 1, by omega⟩
    unfold f_M_findMemoryNames_70
    rw [if_pos (nI_le (by omega) (by omega))]
    exact sm_fm_104 hm hF hs es hn hx (by omega) hI
  | succ d ih =>
    intro j f hj hf
    obtain ⟨f, rfl⟩ : ∃ y, f = y + 1 := ⟨f - 1, by omega⟩
    have go := ih (j + 1) f (by omega) (by omega)
    have h104 := sm_fm_104 (F := F) (j := j) hm hF hs es hn hx (by omega) hI
    unfold f_M_findMemoryNames_70
    rw [if_neg (nI_ge (by omega) (by omega)), lN_i, show nI 64 * nI j = nI (64 * j) from (Int32.ofNat_mul 64 j).symm, nI_add, nI_add, nI_add]
    exact sm_o hm (fun _ => sm_tn hm (by omega) (by decide) (by omega) (fun t ht => sm_i (fun _ => h104) (fun _ => go)))
theorem sm_fm (hm : m ≤ h.length) (hF : 65540 < F) (hs : s ≤ 65536) (es : gI σ0 101 = nI s) : Sm m h (fun σ' => ∃ c, c ≤ 2800 ∧ MNi σ0 σ' c) Any (f_M_findMemoryNames F m (mh m h σ0)) := by
  have hI : MNi σ0 (sI σ0 44 (nI 0)) 0 := ⟨FR_mono (FR_I _ _ _) (by decide) (by decide) (by decide) (by decide), by rw [gI_sI, if_pos rfl], fun i hi => absurd hi (Nat.not_lt_zero i)⟩
  have fin : Sm m h (fun σ' => ∃ c, c ≤ 2800 ∧ MNi σ0 σ' c) Any (some ((), mh m h (sI σ0 44 (nI 0)))) := sm_r any ⟨0, by decide, hI⟩
  unfold f_M_findMemoryNames f_M_findMemoryNames_66
  rw [Mp44 hm, bs]
  refine sm_o hm (fun _ => sm_tn hm (by omega) (by decide) (by decide) (fun n hn => sm_o hm (fun _ => sm_tn hm (by omega) (by decide) (by decide) (fun x hx => ?_))))
  refine sm_o hm (fun _ => sm_tn hm (by omega) (by decide) (by decide) (fun t ht => sm_i (fun _ => ?_) (fun _ => fin)))
  rw [lN_i]
  refine sm_i (fun _ => fin) (fun _ => sm_i (fun _ => fin) (fun hc => sm_gI hm rfl ?_))
  have h24 : n ≤ 24 := Nat.le_of_not_lt (fun w => hc (nI_lt w (by omega)))
  rw [gI_sI, if_neg (by decide), es, nI_l (by omega), nI_l (by omega), show (64 : Int64) * lN n = lN (64 * n) from (Int64.ofNat_mul 64 n).symm, q_lies (by omega) (by omega) (by omega), xb_mk]
  refine sm_i (fun _ => fin) (fun hl => ?_)
  have h1 : x + 64 * n ≤ s := by
    by_cases c : x + 64 * n ≤ s
    · exact c
    · rw [decide_eq_false c] at hl; exact absurd rfl hl
  exact sm_fm_70 hm hF hs es h24 h1 hI n 0 F (Nat.zero_add _) (by omega)
end MBW
end
section
/-! the reference boots: all of it (steps spelled out by sf/pp.py) -/
def BFr (σ0 σ : px_S) : Prop := FR [0, 2, 44, 101, 102, 103, 115] [104] [45, 46, 99, 100] [47, 105, 106, 107, 108, 109, 110, 111, 112, 113, 114] σ0 σ
/-- rows are taken over: j of them -/
def B8i (σa σ : px_S) (j : Nat) : Prop := FR [] [] [] [105, 106, 107, 108, 109] σa σ ∧ ∀ i, i < j → gB σ 106 i = gB σa 111 i ∧ gB σ 107 i = gB σa 112 i ∧ gB σ 108 i = gB σa 113 i
section MBX
variable {F m : Nat} {h : px_H} {σ0 σa σ : px_S} {s r : Nat}
theorem B8_1 {j : Nat} (hI : B8i σa σ j) : B8i σa (sB (sB (sB (sB (sB σ 105 (vp_updL (gB σ 105) j (gB σa 110 j))) 106 (vp_updL (gB σ 106) j (gB σa 111 j))) 107 (vp_updL (gB σ 107) j (gB σa 112 j))) 108 (vp_updL (gB σ 108) j (gB σa 113 j))) 109 (vp_updL (gB σ 109) j (gB σa 114 j))) (j + 1) := by
  obtain ⟨hf, ht⟩ := hI
  have fB : ∀ (τ : px_S) (k : Nat) (g : Nat → Int64), k ∈ [105, 106, 107, 108, 109] → FR [] [] [] [105, 106, 107, 108, 109] σa τ → FR [] [] [] [105, 106, 107, 108, 109] σa (sB τ k g) := fun τ k g hk w => FR_trans w (FR_mono (FR_B _ _ _) (by simp) (by simp) (by simp) (fun i hi => by rw [List.mem_singleton.mp hi]; exact hk))
  refine ⟨fB _ _ _ (by decide) (fB _ _ _ (by decide) (fB _ _ _ (by decide) (fB _ _ _ (by decide) (fB _ _ _ (by decide) hf)))), fun i hi => ?_⟩
  simp only [gB_sB]
  by_cases e : i = j
  · subst e
    exact ⟨by simp [vp_eq], by simp [vp_eq], by simp [vp_eq]⟩
  · obtain ⟨e1, e2, e3⟩ := ht i (by omega)
    exact ⟨by simp [vp_ne e, e1], by simp [vp_ne e, e2], by simp [vp_ne e, e3]⟩
theorem sm_b_148 (hm : m ≤ h.length) (hr : r ≤ 8) (er : gI σa 102 = nI r) : ∀ (d j f : Nat) (σ : px_S), j + d = r → d < f → B8i σa σ j → Sm m h (fun σ' => B8i σa σ' r) Any (f_M_boot_148 F f m (nI j) (mh m h σ)) := by
  intro d
  induction d with
  | zero =>
    intro j f σ hj hf hI
    obtain ⟨f, rfl⟩ : ∃ y, f = y + 1 := ⟨f - 1, by omega⟩
    obtain rfl : j = r := by omega
    unfold f_M_boot_148 f_M_boot_222
    rw [Mg102 hm, bs, hI.1.1 102 List.not_mem_nil, er, if_pos (nI_le (by omega) (by omega))]
    exact sm_r any hI
  | succ d ih =>
    intro j f σ hj hf hI
    obtain ⟨f, rfl⟩ : ∃ y, f = y + 1 := ⟨f - 1, by omega⟩
    have hj8 : j < 8 := by omega
    have e110 : gB σ 110 = gB σa 110 := hI.1.2.2.2 110 (by decide)
    have e111 : gB σ 111 = gB σa 111 := hI.1.2.2.2 111 (by decide)
    have e112 : gB σ 112 = gB σa 112 := hI.1.2.2.2 112 (by decide)
    have e113 : gB σ 113 = gB σa 113 := hI.1.2.2.2 113 (by decide)
    have e114 : gB σ 114 = gB σa 114 := hI.1.2.2.2 114 (by decide)
    unfold f_M_boot_148 f_M_boot_222
    rw [Mg102 hm, bs, hI.1.1 102 List.not_mem_nil, er, if_neg (nI_ge (by omega) (by omega)), nI_add]
    rw [Mr105 hm, bs, Mr110 hm, bs, Ma110 hm hj8, bs, Ms105 hm hj8, bs, Mr106 hm, bs, Mr111 hm, bs, Ma111 hm hj8, bs, Ms106 hm hj8, bs, Mr107 hm, bs, Mr112 hm, bs, Ma112 hm hj8, bs, Ms107 hm hj8, bs, Mr108 hm, bs, Mr113 hm, bs, Ma113 hm hj8, bs, Ms108 hm hj8, bs, Mr109 hm, bs, Mr114 hm, bs, Ma114 hm hj8, bs, Ms109 hm hj8, bs]
    refine ih _ _ _ (by omega) (by omega) ?_
    have w := B8_1 hI
    rw [← e110, ← e111, ← e112, ← e113, ← e114] at w
    exact w
theorem sm_b_116 (hm : m ≤ h.length) (hF : 65540 < F) (hs : s ≤ 65536) (hr : r ≤ 8) : ∀ (d j f : Nat) (σ : px_S), j + d = s → d < f → gI σ 101 = nI s → gI σ 102 = nI r → Sm m h (fun σ' => ∃ σ1 σ2 c, FR [] [] [100] [] σ σ1 ∧ c ≤ 2800 ∧ MNi σ1 σ2 c ∧ B8i σ2 σ' r) Any (f_M_boot_116 F f m (nI j) (mh m h σ)) := by
  intro d
  induction d with
  | zero =>
    intro j f σ hj hf es er
    obtain ⟨f, rfl⟩ : ∃ y, f = y + 1 := ⟨f - 1, by omega⟩
    unfold f_M_boot_116 f_M_boot_142
    rw [Mg101 hm, bs, es, if_pos (nI_le (by omega) (by omega))]
    refine sm_o hm (fun _ => sm_x (sm_fm hm hF hs es) (fun v σ2 hv hi => ?_))
    obtain ⟨c, hc, hI⟩ := hi
    exact sm_wI (sm_b_148 (F := F) (σa := σ2) hm hr ((hI.1.1 102 (by decide)).trans er) r 0 F σ2 (Nat.zero_add _) (by omega) ⟨FR_refl _, fun i hi => absurd hi (Nat.not_lt_zero i)⟩) (fun σ' w => ⟨σ, σ2, c, FR_refl _, hc, hI, w⟩)
  | succ d ih =>
    intro j f σ hj hf es er
    obtain ⟨f, rfl⟩ : ∃ y, f = y + 1 := ⟨f - 1, by omega⟩
    unfold f_M_boot_116
    rw [Mg101 hm, bs, es, if_neg (nI_ge (by omega) (by omega)), Mr100 hm, bs, Mr99 hm, bs, Ma99 hm (by omega), bs, Ms100 hm (by omega), bs, nI_add]
    refine sm_wI (ih (j + 1) f _ (by omega) (by omega) es er) (fun σ' w => ?_)
    obtain ⟨σ1, σ2, c, w1, w2, w3, w4⟩ := w
    exact ⟨σ1, σ2, c, FR_trans (FR_A _ _ _) w1, w2, w3, w4⟩
end MBX
end
