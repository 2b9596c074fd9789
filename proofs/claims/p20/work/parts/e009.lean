section
/-! what is taken keeps what every symbol keeps; commons, own names, the order of definitions -/
section MTI
variable {fs : px_FS} {P : px_TS → Prop}
theorem tkM_inv (hP : ∀ dr t b k s, yOK b k = true → P s → P (tk1 dr t b k s)) {s : px_TK} {q n : Nat} {b : Nat → Nat} (he : eObj b n = 0) (h : P s.1) : P (tkM b q s).1 := by
  obtain ⟨w, hy, _⟩ := eObj_0 he
  by_cases c : oM b = 0
  · show P (itr _ 1 (oM b - 1) s.1)
    rw [c]; exact h
  · exact itr_inv (g := tk1 (itr (dg1 s.2.2.1.length b) 1 (oS b - 1) s.2.1).1 s.2.2.1.length b) (P := P) (a := 1) (e := oM b) (fun i s h1 h2 hs => hP _ _ _ _ _ (hy i h1 h2) hs) (oM b - 1) 1 s.1 (Nat.le_refl _) (by omega) h
theorem TK_inv (hP : ∀ dr t b k s, yOK b k = true → P s → P (tk1 dr t b k s)) (hf : FSo fs) {xs : px_NL} {od : List Nat} (h0 : P (0, xs, od, none)) : P (taL fs xs od).1 := by
  have h1 : ∀ f k (p : px_TK × Bool), P p.1.1 → P (tf1 fs f k p).1.1 := fun f k p hp => by
    rcases tf1_cs2 (fs := fs) (f := f) (k := k) (p := p) with e | ⟨o, n, b, ca, a1, a2, e⟩
    · rw [e]; exact hp
    · rw [e]
      exact tkM_inv hP (s := (p.1.1, p.1.2.1, p.1.2.2.1, ca)) (hf _ _ _ _ a1).2 hp
  have h2 : ∀ f c (s : px_TK), P s.1 → P (tfL fs f c s).1 := fun f c s hs => by
    unfold tfL
    refine whl_inv (st := tfS) (g := rdF fs f) (P := fun s : px_TK => P s.1) (fun s hs => ?_) c s hs
    unfold rdF
    exact itr_inv (g := tf1 fs f) (P := fun p : px_TK × Bool => P p.1.1) (a := 0) (e := 8) (fun k p _ _ hp => h1 f k p hp) 8 0 (s, false) (Nat.le_refl _) (Nat.le_refl _) hs
  have h3 : ∀ f (s : px_TK), P s.1 → P (ta1 fs f s).1 := fun f s hs => by
    unfold ta1
    split
    · exact hs
    · split
      · exact hs
      · rename_i x hx
        split
        · exact h2 f 9 s hs
        · rename_i ea
          have hob := obAt_8 hx (Bool.eq_false_iff.mpr ea)
          exact tkM_inv hP (hf _ _ _ _ hob).2 hs
  unfold taL
  exact itr_inv (g := ta1 fs) (P := fun s : px_TK => P s.1) (a := 0) (e := 8) (fun f s _ _ hs => h3 f s hs) 8 0 ((0, xs, od, none), (fun _ => false, 0, []), [], fun _ => none) (Nat.le_refl _) (Nat.le_refl _) h0
end MTI
theorem stN_ent {w : List Nat} {xs : px_NL} {d : Nat} : stN (entL w xs) d = stN xs d := by
  unfold entL
  split
  · rfl
  · unfold stN
    rw [List.getD_eq_getElem?_getD, List.getD_eq_getElem?_getD]
    by_cases c : d < xs.length
    · rw [List.getElem?_append_left c]
    · rw [List.getElem?_append_right (by omega), List.getElem?_eq_none (l := xs) (by omega)]
      by_cases e : d - xs.length = 0
      · rw [e]; rfl
      · rw [List.getElem?_eq_none (by show 1 ≤ _; omega)]
theorem stN_setR {xs : px_NL} {i d : Nat} {f : px_NR → px_NR} {x : List Nat × px_NR} (h : xs[i]? = some x) : stN (setR xs i f) d = if d = i then (f x.2).1 else stN xs d := by
  unfold setR
  rw [h]
  show stN (xs.set i (x.1, f x.2)) d = _
  unfold stN
  rw [List.getD_eq_getElem?_getD, List.getD_eq_getElem?_getD]
  by_cases c : d = i
  · rw [c, if_pos rfl, List.getElem?_set_self (List.getElem?_eq_some_iff.mp h).1]; rfl
  · rw [if_neg c, List.getElem?_set_ne (fun q => c q.symm)]
def cmP (x : List Nat × px_NR) : Prop := (x.2.1 = 2 → (1 ≤ x.2.2.2.2.2.2.2 ∧ x.2.2.2.2.2.2.2 ≤ 4096) ∧ x.2.2.2.2.2.2.1 ≤ 16384) ∧ x.2.2.2.1 ≤ 4
theorem cmP_nr {w : List Nat} : cmP (w, nr0) := ⟨fun q => (nomatch q), Nat.zero_le _⟩
theorem cmP_cm {s t k z v : Nat} {w : List Nat} {r : px_NR} (h : cmP (w, r)) (hz : s = 2 → (1 ≤ v ∧ v ≤ 4096) ∧ z ≤ 16384) : cmP (w, cmS s t k z v r) := by
  unfold cmS
  by_cases c1 : r.1 < s
  · rw [if_pos c1]
    refine ⟨fun q => ?_, h.2⟩
    have q : s = 2 := q
    have := hz q
    show (1 ≤ (if s = 2 then v else 0) ∧ (if s = 2 then v else 0) ≤ 4096) ∧ (if s = 2 then z else 0) ≤ 16384
    rw [if_pos q, if_pos q]
    exact this
  · rw [if_neg c1]
    by_cases c2 : s = 2 ∧ r.1 = 2
    · rw [if_pos c2]
      have h1 := h.1 c2.2
      have h2 := hz c2.1
      refine ⟨fun _ => ?_, h.2⟩
      show (1 ≤ (if v ≤ r.2.2.2.2.2.2 then r.2.2.2.2.2.2 else v) ∧ (if v ≤ r.2.2.2.2.2.2 then r.2.2.2.2.2.2 else v) ≤ 4096) ∧ (if z ≤ r.2.2.2.2.2.1 then r.2.2.2.2.2.1 else z) ≤ 16384
      have h1 : (1 ≤ r.2.2.2.2.2.2 ∧ r.2.2.2.2.2.2 ≤ 4096) ∧ r.2.2.2.2.2.1 ≤ 16384 := h1
      split <;> split <;> omega
    · rw [if_neg c2]; exact h
theorem yOK_c {b : Nat → Nat} {k : Nat} (h : yOK b k = true) (hb : yB b k ≠ 0) (hw : yW b k = 65522) : (1 ≤ yV b k ∧ yV b k ≤ 4096) ∧ yZ b k ≤ 16384 := by
  unfold yOK at h
  have h1 := ((of_decide_eq_true h).2.2.2 hb).2.2 hw
  have h2 := h1.1
  unfold isP at h2
  have h2 := of_decide_eq_true h2
  exact ⟨⟨h2.1, h2.2.1⟩, h1.2⟩
theorem cmP_tk (dr : Nat → Bool) (t : Nat) (b : Nat → Nat) (k : Nat) (s : px_TS) (hy : yOK b k = true) (h : AL cmP s.2.1) : AL cmP (tk1 dr t b k s).2.1 := by
  unfold tk1
  by_cases c1 : yB b k = 0
  · rw [if_pos c1]; exact h
  · rw [if_neg c1]
    have he := AL_ent (w := yT b k) h cmP_nr
    have hc : AL cmP (comS dr t b k (s.2.1, s.2.2.1)).2.1 := by
      have hcm : ∀ x, cmP x → cmP (x.1, cmS (sOf dr t b k) t k (yZ b k) (yV b k) x.2) := fun x hx => cmP_cm hx (fun q => yOK_c hy c1 (sOf_2 q))
      unfold comS
      dsimp only
      generalize cmS (sOf dr t b k) t k (yZ b k) (yV b k) = g at *
      generalize sOf dr t b k = s0 at *
      generalize decide (yB b k = 1) = d at *
      generalize plc (yT b k) (s.2.1.map Prod.fst) = i at *
      generalize entL (yT b k) s.2.1 = ys at *
      by_cases d1 : s0 = 0
      · rw [if_pos d1]
        exact AL_setR (f := fun r => (r.1, (r.2.1 || d), r.2.2)) he (fun x hx => he i x hx)
      · rw [if_neg d1]
        by_cases d2 : s0 = 3 ∧ (ys.getD i ([], nr0)).2.1 = 3
        · rw [if_pos d2]; exact he
        · rw [if_neg d2]
          exact AL_setR he (fun x hx => hcm x (he i x hx))
    generalize comS dr t b k (s.2.1, s.2.2.1) = Q at *
    split
    · exact he
    · split
      · exact hc
      · exact hc
/-- what is defined has a strength of an input's -/
def odS (s : px_TS) : Prop := ∀ d, d ∈ s.2.2.1 → stN s.2.1 d = 1 ∨ stN s.2.1 d = 2 ∨ stN s.2.1 d = 3
theorem sOf_3 {dr : Nat → Bool} {t : Nat} {b : Nat → Nat} {k : Nat} : sOf dr t b k ≤ 3 := by
  unfold sOf
  repeat (first | omega | split)
theorem cmS_1 {s t k z v : Nat} {r : px_NR} (h : r.1 = 1 ∨ r.1 = 2 ∨ r.1 = 3) (hs : s ≤ 3) : (cmS s t k z v r).1 = 1 ∨ (cmS s t k z v r).1 = 2 ∨ (cmS s t k z v r).1 = 3 := by
  unfold cmS
  by_cases c1 : r.1 < s
  · rw [if_pos c1]; show s = 1 ∨ s = 2 ∨ s = 3; omega
  · rw [if_neg c1]
    by_cases c2 : s = 2 ∧ r.1 = 2
    · rw [if_pos c2]; exact h
    · rw [if_neg c2]; exact h
theorem cmS_0 {s t k z v : Nat} {r : px_NR} (h : r.1 = 0) (hs : s ≤ 3) (h0 : s ≠ 0) : (cmS s t k z v r).1 = 1 ∨ (cmS s t k z v r).1 = 2 ∨ (cmS s t k z v r).1 = 3 := by
  unfold cmS
  rw [if_pos (by omega)]
  show s = 1 ∨ s = 2 ∨ s = 3
  omega
theorem odS_tk (dr : Nat → Bool) (t : Nat) (b : Nat → Nat) (k : Nat) (s : px_TS) (hy : yOK b k = true) (h : odS s) : odS (tk1 dr t b k s) := by
  unfold tk1
  by_cases c1 : yB b k = 0
  · rw [if_pos c1]; exact h
  · rw [if_neg c1]
    have he : ∀ d, d ∈ s.2.2.1 → stN (entL (yT b k) s.2.1) d = 1 ∨ stN (entL (yT b k) s.2.1) d = 2 ∨ stN (entL (yT b k) s.2.1) d = 3 := fun d hd => by rw [stN_ent]; exact h d hd
    have hc : ∀ d, d ∈ (comS dr t b k (s.2.1, s.2.2.1)).2.2 → stN (comS dr t b k (s.2.1, s.2.2.1)).2.1 d = 1 ∨ stN (comS dr t b k (s.2.1, s.2.2.1)).2.1 d = 2 ∨ stN (comS dr t b k (s.2.1, s.2.2.1)).2.1 d = 3 := by
      have hs3 := sOf_3 (dr := dr) (t := t) (b := b) (k := k)
      obtain ⟨r, p1, p2⟩ := plc_at (w := yT b k) (xs := s.2.1)
      have hcm : ∀ r : px_NR, (r.1 = 1 ∨ r.1 = 2 ∨ r.1 = 3) → (cmS (sOf dr t b k) t k (yZ b k) (yV b k) r).1 = 1 ∨ (cmS (sOf dr t b k) t k (yZ b k) (yV b k) r).1 = 2 ∨ (cmS (sOf dr t b k) t k (yZ b k) (yV b k) r).1 = 3 := fun r hr => cmS_1 hr hs3
      have hcm0 : sOf dr t b k ≠ 0 → ∀ r : px_NR, r.1 = 0 → (cmS (sOf dr t b k) t k (yZ b k) (yV b k) r).1 = 1 ∨ (cmS (sOf dr t b k) t k (yZ b k) (yV b k) r).1 = 2 ∨ (cmS (sOf dr t b k) t k (yZ b k) (yV b k) r).1 = 3 := fun h0 r hr => cmS_0 hr hs3 h0
      unfold comS
      dsimp only
      generalize cmS (sOf dr t b k) t k (yZ b k) (yV b k) = g at *
      generalize sOf dr t b k = s0 at *
      generalize decide (yB b k = 1) = d0 at *
      generalize plc (yT b k) (s.2.1.map Prod.fst) = i at *
      generalize entL (yT b k) s.2.1 = ys at *
      have hst : (ys.getD i ([], nr0)).2.1 = r.1 := by rw [getD_at p1]
      have hsi : stN ys i = r.1 := stN_at p1
      by_cases d1 : s0 = 0
      · rw [if_pos d1]
        intro d hd
        show stN (setR ys i (fun r => (r.1, (r.2.1 || d0), r.2.2))) d = 1 ∨ _
        rw [stN_setR p1]
        by_cases e : d = i
        · rw [if_pos e]
          have := he d hd
          rw [e, hsi] at this
          exact this
        · rw [if_neg e]; exact he d hd
      · rw [if_neg d1]
        by_cases d2 : s0 = 3 ∧ (ys.getD i ([], nr0)).2.1 = 3
        · rw [if_pos d2]; exact he
        · rw [if_neg d2]
          intro d hd
          show stN (setR ys i g) d = 1 ∨ stN (setR ys i g) d = 2 ∨ stN (setR ys i g) d = 3
          rw [stN_setR p1]
          have hd : d ∈ (if (ys.getD i ([], nr0)).2.1 = 0 then s.2.2.1 ++ [i] else s.2.2.1) := hd
          rw [hst] at hd
          by_cases e : d = i
          · rw [if_pos e]
            by_cases z : r.1 = 0
            · exact hcm0 d1 r z
            · rw [if_neg z] at hd
              have := he d hd
              rw [e, hsi] at this
              exact hcm r this
          · rw [if_neg e]
            split at hd
            · rcases List.mem_append.mp hd with q | q
              · exact he d q
              · exact absurd (List.mem_singleton.mp q) e
            · exact he d hd
    generalize comS dr t b k (s.2.1, s.2.2.1) = Q at *
    split
    · exact he
    · split
      · exact hc
      · exact hc
theorem txs_tk (w : List Nat) (dr : Nat → Bool) (t : Nat) (b : Nat → Nat) (k : Nat) (s : px_TS) (_ : yOK b k = true) (h : w ∈ txs s) : w ∈ txs (tk1 dr t b k s) := by
  rw [tk1_fst]
  split
  · exact h
  · exact ent_mem.mpr (Or.inr h)
end
section
/-! where the sections lie: within the file -/
theorem pg1_at {tb : Nat → Nat → Nat} {g : Nat} {th : Bool} {s : px_PG} {y : Nat} (c : cnd tb g y = true) : pg1 tb g th s y = (pgA tb th s.1 y + zS tb y, fun z => if z = y then pgA tb th s.1 y else s.2.1 z, if g = 3 then some (s.2.2.getD (pgA tb th s.1 y)) else s.2.2) := by unfold pg1; rw [if_pos c]
theorem pg1_no {tb : Nat → Nat → Nat} {g : Nat} {th : Bool} {s : px_PG} {y : Nat} (c : ¬ cnd tb g y = true) : pg1 tb g th s y = s := by unfold pg1; rw [if_neg c]
theorem tup_ne {A Z x y : Nat} {f : Nat → Nat} {o : Option Nat} {P : px_PG} (hP : P = (A + Z, fun z => if z = y then A else f z, o)) (h : x ≠ y) : P.2.1 x = f x := by
  rw [hP]
  show (if x = y then A else f x) = _
  rw [if_neg h]
theorem tup_eq {A Z y : Nat} {f : Nat → Nat} {o : Option Nat} {P : px_PG} (hP : P = (A + Z, fun z => if z = y then A else f z, o)) : P.2.1 y = A ∧ P.1 = A + Z := by
  rw [hP]
  exact ⟨if_pos rfl, rfl⟩
theorem pgs_out {tb : Nat → Nat → Nat} {g : Nat} {th : Bool} {x : Nat} (hx : cnd tb g x = false) : ∀ (l : List Nat) (s : px_PG), (l.foldl (pg1 tb g th) s).2.1 x = s.2.1 x := by
  intro l
  induction l with
  | nil => intro s; rfl
  | cons y l ih =>
    intro s
    rw [List.foldl_cons, ih]
    by_cases c : cnd tb g y = true
    · exact tup_ne (pg1_at c) (fun e => by rw [e, c] at hx; cases hx)
    · rw [pg1_no c]
theorem pgs_ni {tb : Nat → Nat → Nat} {g : Nat} {th : Bool} {x : Nat} : ∀ (l : List Nat) (s : px_PG), x ∉ l → (l.foldl (pg1 tb g th) s).2.1 x = s.2.1 x := by
  intro l
  induction l with
  | nil => intro s _; rfl
  | cons y l ih =>
    intro s hx
    rw [List.foldl_cons, ih _ (fun q => hx (List.mem_cons_of_mem _ q))]
    by_cases c : cnd tb g y = true
    · exact tup_ne (pg1_at c) (fun e => hx (by rw [e]; exact List.mem_cons_self))
    · rw [pg1_no c]
theorem pgA_ge {tb : Nat → Nat → Nat} {th : Bool} {a x : Nat} : a ≤ pgA tb th a x := by
  unfold pgA
  split
  · rename_i q
    exact (upN_le (v := a) (a := alS tb x) (by omega)).1
  · exact Nat.le_refl _
theorem pgs_in {tb : Nat → Nat → Nat} {g : Nat} {th : Bool} {x : Nat} (hc : cnd tb g x = true) : ∀ (l : List Nat) (s : px_PG), l.Nodup → (∀ x, x ∈ l → zS tb x ≤ 16384 ∧ alS tb x ≤ 4096) → x ∈ l → s.1 ≤ (l.foldl (pg1 tb g th) s).2.1 x ∧ (l.foldl (pg1 tb g th) s).2.1 x + zS tb x ≤ (l.foldl (pg1 tb g th) s).1 := by
  intro l
  induction l with
  | nil => intro s _ _ h; exact absurd h List.not_mem_nil
  | cons y l ih =>
    intro s hd hz hx
    rw [List.foldl_cons]
    have hd2 := List.nodup_cons.mp hd
    have hz2 : ∀ x, x ∈ l → zS tb x ≤ 16384 ∧ alS tb x ≤ 4096 := fun x hx => hz x (List.mem_cons_of_mem _ hx)
    by_cases e : x = y
    · rw [pgs_ni l _ (by rw [e]; exact hd2.1)]
      have hm := (pgs_m (g := g) (th := th) l (pg1 tb g th s y) hz2).1
      rw [e] at hc ⊢
      obtain ⟨t1, t2⟩ := tup_eq (pg1_at (th := th) (s := s) hc)
      have hge := pgA_ge (tb := tb) (th := th) (a := s.1) (x := y)
      rw [t1]
      rw [t2] at hm
      exact ⟨hge, hm⟩
    · have hx2 : x ∈ l := (List.mem_cons.mp hx).elim (fun q => absurd q e) id
      have h1 := ih (pg1 tb g th s y) hd2.2 hz2 hx2
      have hm := (pg1_m (g := g) (th := th) (s := s) (hz y List.mem_cons_self)).1
      exact ⟨Nat.le_trans hm h1.1, h1.2⟩
theorem pf0_nil {B : Nat → Nat} {tO : Nat → Nat} {tb : Nat → Nat → Nat} {nd : List (List Nat)} : ∀ (l : List Nat) (pf : List Nat), (∀ x, x ∈ l → sS tb x = false) → l.foldl (s1F B nd tO tb) pf = pf := by
  intro l
  induction l with
  | nil => intro pf _; rfl
  | cons x l ih =>
    intro pf h
    rw [List.foldl_cons]
    have e : s1F B nd tO tb pf x = pf := by unfold s1F; rw [h x List.mem_cons_self, if_neg (by decide)]
    rw [e]
    exact ih pf (fun y hy => h y (List.mem_cons_of_mem _ hy))
def seg3 (a b c s : Nat) : Nat := if s = 0 then a else if s = 1 then b else c
theorem sS_z {tb : Nat → Nat → Nat} {x : Nat} (h : sS tb x = true) : 0 < zS tb x := by
  unfold sS oStr at h
  rw [Bool.and_eq_true] at h
  have := h.1
  unfold oStr0 at this
  exact (of_decide_eq_true this).2.2.2.2.1
section MRM
variable {T : Nat} {B : Nat → Nat} {tb : Nat → Nat → Nat} {tO : Nat → Nat} {dr : Nat → Bool} {xs : px_NL} {ll od : List Nat} {on : Bool} {R rn : Nat → Bool} {ns : Nat} {th : Nat → Bool} {fe0 bg0 fe1 mem1 bg1 fe2 mem2 bg2 sp fe3 : Nat} {G0 G1 G4 G5 G2 G3 CM : px_PG}
theorem cnd_g {g x : Nat} (h : oG (tb (x / 24)) (x % 24) = g) (hs : sS tb x = false) : cnd tb g x = true := by
  unfold cnd
  rw [decide_eq_true h, hs, Bool.and_false]; rfl
theorem cnd_ng {g x : Nat} (h : oG (tb (x / 24)) (x % 24) ≠ g) : cnd tb g x = false := by
  unfold cnd
  rw [decide_eq_false h, Bool.false_and]
theorem LY_room (hY : LYo T tb ll) (hth : th = thS tb ll xs od on rn ns) (hns : ns = (slL T tb dr xs (sta tb dr on R)).length) (hL : LYe B tO tb ll xs od ns on rn th fe0 bg0 G0 fe1 mem1 bg1 G1 fe2 mem2 bg2 G4 G5 G2 sp G3 CM fe3) (h3 : fe3 ≤ 65536) (had : ∀ x, G3.2.1 x ≤ 2 ^ 39) : hRm T tO tb dr xs (sta tb dr on R) ll B G3.2.1 (seg3 (upN fe0 16) (upN fe1 16) (upN fe2 16)) (seg3 bg0 bg1 bg2) sp G1.1 := by
  obtain ⟨hT, hl, hnd, hZ⟩ := hY
  obtain ⟨l1, l2, l3, l4, l5, l6, l7, l8, l9, l10, l11, l12, l13, l14, l15, l16, l17⟩ := hL
  have u0 := upN_le (v := fe0) (a := 16) (by decide)
  have u1 := upN_le (v := fe1) (a := 16) (by decide)
  have u2 := upN_le (v := fe2) (a := 16) (by decide)
  have mo01 : fe0 ≤ fe1 := by rw [l4]; split <;> omega
  have mo12 : fe1 ≤ fe2 := by rw [l8]; split <;> omega
  have mo23 : fe2 ≤ fe3 := by rw [l17]; split <;> omega
  have thx_t : ∀ x, x ∈ ll → 0 < zS tb x → th (sgO (oG (tb (x / 24)) (x % 24))) = true := fun x hx hz => by
    rw [hth]
    unfold thS
    rw [show ll.any (thx tb (sgO (oG (tb (x / 24)) (x % 24)))) = true from List.any_eq_true.mpr ⟨x, hx, by unfold thx; rw [decide_eq_true rfl, decide_eq_true hz]; rfl⟩, Bool.true_or]
  have m4 := pgs_m (g := 4) (th := th 2) ll (bg2, psF B (pf0 B tO tb ll) tO tb G1.1 G1.2.1, none) hZ
  rw [← l11] at m4
  have m41 : bg2 ≤ G4.1 := m4.1
  have m2 := pgs_m (g := 2) (th := th 2) ll (G4.1, G5.2.1, none) hZ
  rw [← l13] at m2
  have m21 : G4.1 ≤ G2.1 := m2.1
  have hsp : G2.1 ≤ sp := by
    rw [l14]
    split
    · exact (upN_le (v := G2.1) (a := 8) (by decide)).1
    · exact Nat.le_refl _
  have m1 := pgs_m (g := 1) (th := th 1) ll (bg1, G0.2.1, none) hZ
  rw [← l7] at m1
  have m11 : bg1 ≤ G1.1 := m1.1
  refine ⟨fun x hx hs c3 c5 hz => ?_, had, fun s => ?_, fun hp => ?_, fun hp => ?_, fun x hx => (hZ x hx).1⟩
  · have hG : oG (tb (x / 24)) (x % 24) ≤ 5 := by unfold oG; repeat (first | omega | split)
    have ht := thx_t x hx hz
    -- the last groups leave the others alone
    have e3 : G3.2.1 x = G2.2.1 x := by rw [l15]; exact pgs_out (cnd_ng c3) ll _
    have e25 : oG (tb (x / 24)) (x % 24) ≠ 2 → G3.2.1 x = G5.2.1 x := fun q => by rw [e3, l13]; exact pgs_out (cnd_ng q) ll _
    have e5 : G5.2.1 x = G4.2.1 x := by rw [l12]; exact pgs_out (cnd_ng c5) ll _
    have e4 : oG (tb (x / 24)) (x % 24) ≠ 4 → G4.2.1 x = G1.2.1 x := fun q => by
      rw [l11, pgs_out (cnd_ng q) ll _]
      show psF B (pf0 B tO tb ll) tO tb G1.1 G1.2.1 x = _
      unfold psF
      rw [hs, if_neg (by decide)]
    by_cases g0 : oG (tb (x / 24)) (x % 24) = 0
    · have e1 : G1.2.1 x = G0.2.1 x := by rw [l7]; exact pgs_out (cnd_ng (by omega)) ll _
      have hin := pgs_in (th := th 0) (cnd_g g0 hs) ll (bg0, (fun _ => 0), none) hnd hZ hx
      rw [← l3] at hin
      have hin1 : bg0 ≤ G0.2.1 x := hin.1
      have es : sgO (oG (tb (x / 24)) (x % 24)) = 0 := by rw [g0]; rfl
      rw [es] at ht ⊢
      rw [if_pos ht] at l4
      show bg0 ≤ G3.2.1 x ∧ upN fe0 16 + (G3.2.1 x + zS tb x - bg0) ≤ 65536
      rw [e25 (by omega), e5, e4 (by omega), e1]
      omega
    by_cases g1 : oG (tb (x / 24)) (x % 24) = 1
    · have hin := pgs_in (th := th 1) (cnd_g g1 hs) ll (bg1, G0.2.1, none) hnd hZ hx
      rw [← l7] at hin
      have hin1 : bg1 ≤ G1.2.1 x := hin.1
      have es : sgO (oG (tb (x / 24)) (x % 24)) = 1 := by rw [g1]; rfl
      rw [es] at ht ⊢
      rw [if_pos ht] at l8
      show bg1 ≤ G3.2.1 x ∧ upN fe1 16 + (G3.2.1 x + zS tb x - bg1) ≤ 65536
      rw [e25 (by omega), e5, e4 (by omega)]
      omega
    have es : sgO (oG (tb (x / 24)) (x % 24)) = 2 := by unfold sgO; rw [if_neg (by omega)]
    rw [es] at ht ⊢
    rw [if_pos ht] at l17
    show bg2 ≤ G3.2.1 x ∧ upN fe2 16 + (G3.2.1 x + zS tb x - bg2) ≤ 65536
    by_cases g2 : oG (tb (x / 24)) (x % 24) = 2
    · have hin := pgs_in (th := th 2) (cnd_g g2 hs) ll (G4.1, G5.2.1, none) hnd hZ hx
      rw [← l13] at hin
      have hin1 : G4.1 ≤ G2.2.1 x := hin.1
      rw [e3]
      omega
    · have g4 : oG (tb (x / 24)) (x % 24) = 4 := by omega
      have hin := pgs_in (th := th 2) (cnd_g g4 hs) ll (bg2, psF B (pf0 B tO tb ll) tO tb G1.1 G1.2.1, none) hnd hZ hx
      rw [← l11] at hin
      have hin1 : bg2 ≤ G4.2.1 x := hin.1
      rw [e25 g2, e5]
      omega
  · have hf0 : upN fe0 16 ≤ 2 ^ 39 ∧ upN fe1 16 ≤ 2 ^ 39 ∧ upN fe2 16 ≤ 2 ^ 39 := by omega
    unfold seg3
    split
    · exact hf0.1
    · split
      · exact hf0.2.1
      · exact hf0.2.2
  · have hex : ∃ x, x ∈ ll ∧ sS tb x = true := Classical.byContradiction (fun q => by
      have e : pf0 B tO tb ll = [] := pf0_nil ll [] (fun x hx => by
        cases es : sS tb x with
        | false => rfl
        | true => exact absurd ⟨x, hx, es⟩ q)
      rw [e] at hp
      exact absurd hp (by show ¬ 0 < 0; omega))
    obtain ⟨x, hx, es⟩ := hex
    have ht := thx_t x hx (sS_z es)
    rw [sS_g es] at ht
    have ht : th 1 = true := ht
    rw [if_pos ht] at l8
    show bg1 ≤ G1.1 ∧ upN fe1 16 + (G1.1 - bg1) + psz B (pf0 B tO tb ll) ≤ 65536
    omega
  · rw [← hns] at hp ⊢
    have ht : th 2 = true := by
      rw [hth]
      unfold thS
      rw [decide_eq_true rfl, decide_eq_true hp, Bool.or_true, Bool.true_and, Bool.or_true]
    rw [if_pos ht] at l17
    show bg2 ≤ sp ∧ upN fe2 16 + (sp - bg2) + 8 * ns ≤ 65536
    omega
end MRM
end
section
/-! the names before any object; own names keep what is known -/
def st0 (x : List Nat × px_NR) : Prop := okR x.2 ∧ (x.2.2.2.2.1 = none ∧ (x.2.1 = 0 ∨ x.2.1 = 3)) ∧ cmP x
theorem st0_nr {w : List Nat} : st0 (w, nr0) := ⟨⟨Nat.zero_le _, by show (0:Nat) < _; omega, by show (0:Nat) < _; omega⟩, ⟨rfl, Or.inl rfl⟩, cmP_nr⟩
theorem stN_lt {xs : px_NL} {d : Nat} (h : stN xs d ≠ 0) : d < xs.length := by
  refine Decidable.byContradiction fun q => h ?_
  unfold stN
  rw [List.getD_eq_getElem?_getD, List.getElem?_eq_none (by omega)]
  rfl
theorem tlG_inv : ∀ (l : List (List Nat × Int64)) (s : px_NL × List Nat), AL st0 s.1 → (s.1.map Prod.fst).Nodup → (∀ d, d ∈ s.2 → stN s.1 d = 3) → AL st0 (tlG l s).1 ∧ ((tlG l s).1.map Prod.fst).Nodup ∧ (∀ d, d ∈ (tlG l s).2 → stN (tlG l s).1 d = 3) ∧ (tlG l s).1.length ≤ s.1.length + l.length ∧ (tlG l s).2.length = s.2.length + l.length := by
  intro l
  induction l with
  | nil => intro s h1 h2 h3; exact ⟨h1, h2, h3, Nat.le_refl _, rfl⟩
  | cons g l ih =>
    intro s h1 h2 h3
    unfold tlG
    obtain ⟨r, p1, p2⟩ := plc_at (w := g.1) (xs := s.1)
    have he := AL_ent (w := g.1) h1 st0_nr
    have a1 : AL st0 (setR (entL g.1 s.1) (plc g.1 (s.1.map Prod.fst)) (gvR g.2)) := AL_setR he (fun x hx => by
      have := he _ x hx
      exact ⟨⟨by show (3:Nat) ≤ 4; omega, this.1.2⟩, ⟨this.2.1.1, Or.inr rfl⟩, ⟨fun q => (nomatch q), this.2.2.2⟩⟩)
    have a2 : ((setR (entL g.1 s.1) (plc g.1 (s.1.map Prod.fst)) (gvR g.2)).map Prod.fst).Nodup := by
      rw [setR_fst, entL_fst]; exact ent_nd h2
    have a3 : ∀ d, d ∈ s.2 ++ [plc g.1 (s.1.map Prod.fst)] → stN (setR (entL g.1 s.1) (plc g.1 (s.1.map Prod.fst)) (gvR g.2)) d = 3 := fun d hd => by
      rw [stN_setR p1]
      by_cases c : d = plc g.1 (s.1.map Prod.fst)
      · rw [if_pos c]; rfl
      · rw [if_neg c, stN_ent]
        rcases List.mem_append.mp hd with q | q
        · exact h3 d q
        · exact absurd (List.mem_singleton.mp q) c
    obtain ⟨b1, b2, b3, b4, b5⟩ := ih (setR (entL g.1 s.1) (plc g.1 (s.1.map Prod.fst)) (gvR g.2), s.2 ++ [plc g.1 (s.1.map Prod.fst)]) a1 a2 a3
    refine ⟨b1, b2, b3, Nat.le_trans b4 ?_, b5.trans ?_⟩
    · show (setR (entL g.1 s.1) (plc g.1 (s.1.map Prod.fst)) (gvR g.2)).length + l.length ≤ s.1.length + (l.length + 1)
      rw [setR_len]
      have := entL_len (w := g.1) (xs := s.1)
      omega
    · show (s.2 ++ [plc g.1 (s.1.map Prod.fst)]).length + l.length = s.2.length + (l.length + 1)
      rw [List.length_append, List.length_singleton]; omega
theorem tlW_inv : ∀ (l : List (List Nat)) (xs : px_NL), AL st0 xs → (xs.map Prod.fst).Nodup → AL st0 (tlW l xs) ∧ ((tlW l xs).map Prod.fst).Nodup ∧ (∀ d, stN (tlW l xs) d = stN xs d) ∧ (tlW l xs).length ≤ xs.length + l.length ∧ ∀ w, (w ∈ l ∨ w ∈ xs.map Prod.fst) → w ∈ (tlW l xs).map Prod.fst := by
  intro l
  induction l with
  | nil => intro xs h1 h2; exact ⟨h1, h2, fun _ => rfl, Nat.le_refl _, fun w q => q.elim (fun q => nomatch q) id⟩
  | cons v l ih =>
    intro xs h1 h2
    unfold tlW
    obtain ⟨r, p1, p2⟩ := plc_at (w := v) (xs := xs)
    have he := AL_ent (w := v) h1 st0_nr
    have a1 : AL st0 (setR (entL v xs) (plc v (xs.map Prod.fst)) wsR) := AL_setR he (fun x hx => he _ x hx)
    have a2 : ((setR (entL v xs) (plc v (xs.map Prod.fst)) wsR).map Prod.fst).Nodup := by
      rw [setR_fst, entL_fst]; exact ent_nd h2
    obtain ⟨b1, b2, b3, b4, b5⟩ := ih (setR (entL v xs) (plc v (xs.map Prod.fst)) wsR) a1 a2
    refine ⟨b1, b2, fun d => ?_, ?_, fun w hw => b5 w ?_⟩
    · rw [b3, stN_setR p1]
      by_cases c : d = plc v (xs.map Prod.fst)
      · rw [if_pos c, c, ← stN_ent (w := v), stN_at p1]; rfl
      · rw [if_neg c, stN_ent]
    · rw [setR_len] at b4
      have := entL_len (w := v) (xs := xs)
      rw [List.length_cons]; omega
    · rw [setR_fst, entL_fst]
      rcases hw with q | q
      · rcases List.mem_cons.mp q with q | q
        · exact Or.inr (ent_mem.mpr (Or.inl q))
        · exact Or.inl q
      · exact Or.inr (ent_mem.mpr (Or.inr q))
/-- the start: names and order of definitions -/
def xs0 (gs : List (List Nat × Int64)) (ws : List (List Nat)) : px_NL := tlW ws (tlG gs ([], [])).1
def od0 (gs : List (List Nat × Int64)) : List Nat := (tlG gs ([], [])).2
def ST0 (xs : px_NL) (od : List Nat) : Prop := AL st0 xs ∧ (xs.map Prod.fst).Nodup ∧ (∀ d, d ∈ od → stN xs d = 3) ∧ xs.length ≤ 32 ∧ od.length ≤ 32
theorem ST0_xs {gs : List (List Nat × Int64)} {ws : List (List Nat)} (hg : gs.length ≤ 16) (hw : ws.length ≤ 16) : ST0 (xs0 gs ws) (od0 gs) ∧ ∀ w, w ∈ ws → w ∈ (xs0 gs ws).map Prod.fst := by
  obtain ⟨a1, a2, a3, a4, a5⟩ := tlG_inv gs ([], []) (fun i x hx => by rw [List.getElem?_nil] at hx; cases hx) List.Pairwise.nil (fun d hd => nomatch hd)
  obtain ⟨b1, b2, b3, b4, b5⟩ := tlW_inv ws (tlG gs ([], [])).1 a1 a2
  have a4 : (tlG gs ([], [])).1.length ≤ 0 + gs.length := a4
  have a5 : (tlG gs ([], [])).2.length = 0 + gs.length := a5
  refine ⟨⟨b1, b2, fun d hd => by unfold xs0; rw [b3]; exact a3 d hd, ?_, ?_⟩, fun w hw => b5 w (Or.inl hw)⟩
  · unfold xs0; omega
  · unfold od0; omega
section MST
variable {fs : px_FS} {xs : px_NL} {od : List Nat}
theorem WK_0 (hf : FSo fs) (h : ST0 xs od) : WK fs (taL fs xs od) := WK_taL hf (fun i x hx => (h.1 i x hx).1) h.2.2.2.1 h.2.2.2.2 (fun i x hx => (h.1 i x hx).2.1) h.2.1 (fun d hd => stN_lt (by rw [h.2.2.1 d hd]; decide))
theorem cmP_0 (hf : FSo fs) (h : ST0 xs od) : AL cmP (taL fs xs od).1.2.1 := TK_inv (P := fun s => AL cmP s.2.1) cmP_tk hf (fun i x hx => (h.1 i x hx).2.2)
theorem odS_0 (hf : FSo fs) (h : ST0 xs od) : odS (taL fs xs od).1 := TK_inv (P := odS) odS_tk hf (fun d hd => Or.inr (Or.inr (h.2.2.1 d hd)))
theorem txs_0 (hf : FSo fs) {w : List Nat} (h : w ∈ xs.map Prod.fst) : w ∈ (taL fs xs od).1.2.1.map Prod.fst := TK_inv (P := fun s => w ∈ txs s) (txs_tk w) hf h
end MST
/-- own1 keeps a property of every name that own names have -/
theorem own1_cs {k : Nat} {w : List Nat} {xs : px_NL} : own1 k w xs = xs ∨ ∃ i, stN xs i = 0 ∧ own1 k w xs = setR xs i (fun r => (4, r.2.1, k, r.2.2.2)) := by
  unfold own1
  split
  · exact Or.inl rfl
  · rename_i i _
    by_cases c : stN xs i = 0
    · rw [if_pos c]; exact Or.inr ⟨i, c, rfl⟩
    · rw [if_neg c]; exact Or.inl rfl
theorem AL_own1 {P : List Nat × px_NR → Prop} {k : Nat} {w : List Nat} {xs : px_NL} (hP : ∀ x : List Nat × px_NR, x.2.1 = 0 → P x → P (x.1, (4, x.2.2.1, k, x.2.2.2.2))) (h : AL P xs) : AL P (own1 k w xs) := by
  rcases own1_cs (k := k) (w := w) (xs := xs) with e | ⟨i, c, e⟩
  · rw [e]; exact h
  · rw [e]
    exact AL_setR h (fun x hx => hP x (by rw [← stN_at hx]; exact c) (h i x hx))
theorem AL_own {P : List Nat × px_NR → Prop} {xs : px_NL} (hP : ∀ k, k ≤ 4 → ∀ x : List Nat × px_NR, x.2.1 = 0 → P x → P (x.1, (4, x.2.2.1, k, x.2.2.2.2))) (h : AL P xs) : AL P (ownL xs) := by
  unfold ownL
  exact AL_own1 (hP 4 (by omega)) (AL_own1 (hP 3 (by omega)) (AL_own1 (hP 2 (by omega)) (AL_own1 (hP 1 (by omega)) h)))
theorem stN_own1 {k d : Nat} {w : List Nat} {xs : px_NL} (h : stN xs d ≠ 0) : stN (own1 k w xs) d = stN xs d := by
  rcases own1_cs (k := k) (w := w) (xs := xs) with e | ⟨i, c, e⟩
  · rw [e]
  · rw [e]
    by_cases hi : i < xs.length
    · rw [stN_setR (List.getElem?_eq_getElem hi), if_neg (fun q => h (by rw [q]; exact c))]
    · unfold setR
      rw [List.getElem?_eq_none (by omega)]
theorem stN_own {d : Nat} {xs : px_NL} (h : stN xs d ≠ 0) : stN (ownL xs) d = stN xs d := by
  have h1 := stN_own1 (k := 1) (w := wO1) h
  have h2 := stN_own1 (k := 2) (w := wO2) (xs := own1 1 wO1 xs) (by rw [h1]; exact h)
  have h3 := stN_own1 (k := 3) (w := wO3) (xs := own1 2 wO2 (own1 1 wO1 xs)) (by rw [h2, h1]; exact h)
  have h4 := stN_own1 (k := 4) (w := wO4) (xs := own1 3 wO3 (own1 2 wO2 (own1 1 wO1 xs))) (by rw [h3, h2, h1]; exact h)
  unfold ownL
  rw [h4, h3, h2, h1]
theorem byP_own {T : Nat} {tb : Nat → Nat → Nat} {dr : Nat → Bool} {k : Nat} (x : List Nat × px_NR) (h0 : x.2.1 = 0) (h : byP T tb dr x) : byP T tb dr (x.1, (4, x.2.2.1, k, x.2.2.2.2)) := by
  unfold byP at *
  show match x.2.2.2.2.1 with
    | none => (4:Nat) = 0 ∨ (4:Nat) = 3 ∨ (4:Nat) = 4
    | some q => _
  split
  · exact Or.inr (Or.inr rfl)
  · rename_i q hq
    rw [hq] at h
    exact absurd h0 h.2.2.2.2.1
theorem cmP_own (k : Nat) (hk : k ≤ 4) (x : List Nat × px_NR) (_ : x.2.1 = 0) (h : cmP x) : cmP (x.1, (4, x.2.2.1, k, x.2.2.2.2)) := ⟨fun q => (nomatch q), hk⟩
theorem cmOK_of {xs : px_NL} (h : AL cmP xs) : cmOK xs := fun n hn h2 => by
  have e := List.getElem?_eq_getElem hn
  have := (h n _ e).1 (by rw [← stN_at e]; exact h2)
  unfold cmV cmZ
  rw [getD_at e]
  exact this
end
section
/-! what is laid: all that stays, within bounds -/
theorem eObj_a {b : Nat → Nat} {n i : Nat} (h : eObj b n = 0) (hi : i < oS b) (hk : oK b i = true) : oZ b i ≤ 16384 ∧ oA b i ≤ 4096 := by
  unfold eObj at h
  by_cases c1 : n < 64 ∨ oH b = false
  · rw [if_pos c1] at h; cases h
  · rw [if_neg c1] at h
    by_cases c2 : 1 ≤ oS b ∧ oS b ≤ 24 ∧ oR b + 64 * oS b ≤ n ∧ oT b 0 = 0
    · rw [if_neg (fun q => q c2)] at h
      by_cases c3 : fst0 (eSec b n) 0 (oS b) = 0
      · have hs := eSec_w (fst0_0 c3 i (Nat.zero_le _) (by omega))
        refine ⟨hs.2.1 hk, ?_⟩
        rcases hs.2.2 hk with e | e
        · rw [e]; decide
        · exact (of_decide_eq_true e).2.1
      · rw [if_pos c3] at h; exact absurd h c3
    · rw [if_pos c2] at h; cases h
section MLD
variable {T : Nat} {tb : Nat → Nat → Nat} {sy : Nat → Nat → Bool}
theorem lay3_m {g t i x : Nat} {l : List Nat} (h : x ∈ l) : x ∈ lay3 tb sy g t i l := by
  unfold lay3
  split
  · exact List.mem_append.mpr (Or.inl h)
  · exact h
theorem lay2_m {g t : Nat} (l : List Nat) : (∀ x, x ∈ l → x ∈ lay2 tb sy g t l) ∧ ∀ i, 1 ≤ i → i < oS (tb t) → (sy t i = true ∧ oG (tb t) i = g) → 24 * t + i ∈ lay2 tb sy g t l := by
  unfold lay2
  by_cases c : oS (tb t) = 0
  · rw [c]; exact ⟨fun x hx => hx, fun i h1 h2 => by omega⟩
  · have := itr_hit (g := lay3 tb sy g t) (M := fun (x : Nat) (l : List Nat) => x ∈ l) (v := fun i => 24 * t + i) (Q := fun i => sy t i = true ∧ oG (tb t) i = g) (a := 1) (e := oS (tb t)) (fun i s w _ _ hw => lay3_m hw) (fun i s _ _ hq => by unfold lay3; rw [if_pos hq]; exact List.mem_append.mpr (Or.inr (List.mem_singleton.mpr rfl))) (oS (tb t) - 1) 1 l (Nat.le_refl _) (by omega)
    exact ⟨this.1, fun i h1 h2 hq => this.2 i h1 (by omega) hq⟩
theorem lay1_m {u : Nat} (l : List Nat) : (∀ x, x ∈ l → x ∈ lay1 T tb sy u l) ∧ ∀ t i, t < T → 1 ≤ i → i < oS (tb t) → (sy t i = true ∧ oG (tb t) i = gOf u) → 24 * t + i ∈ lay1 T tb sy u l := by
  unfold lay1
  refine ⟨(itr_hit (g := lay2 tb sy (gOf u)) (M := fun (x : Nat) (l : List Nat) => x ∈ l) (v := fun i => i) (Q := fun _ => False) (a := 0) (e := T) (fun i s w _ _ hw => (lay2_m s).1 w hw) (fun i s _ _ hq => hq.elim) T 0 l (Nat.le_refl _) (by omega)).1, fun t i ht h1 h2 hq => ?_⟩
  exact (itr_hit (g := lay2 tb sy (gOf u)) (M := fun (x : Nat) (l : List Nat) => x ∈ l) (v := fun _ => 24 * t + i) (Q := fun t' => t' = t) (a := 0) (e := T) (fun i s w _ _ hw => (lay2_m s).1 w hw) (fun t' s _ _ e => by rw [e]; exact (lay2_m s).2 i h1 h2 hq) T 0 l (Nat.le_refl _) (by omega)).2 t (Nat.zero_le _) (by omega) rfl
theorem llS_lay : llS T tb sy (layL T tb sy) := by
  intro t i ht h1 h2 hs
  unfold layL
  have hu : ∃ u, u < 6 ∧ oG (tb t) i = gOf u := by
    unfold oG
    repeat' split
    · exact ⟨3, by omega, rfl⟩
    · exact ⟨2, by omega, rfl⟩
    · exact ⟨5, by omega, rfl⟩
    · exact ⟨0, by omega, rfl⟩
    · exact ⟨4, by omega, rfl⟩
    · exact ⟨1, by omega, rfl⟩
  obtain ⟨u, hu, hg⟩ := hu
  exact (itr_hit (g := lay1 T tb sy) (M := fun (x : Nat) (l : List Nat) => x ∈ l) (v := fun _ => 24 * t + i) (Q := fun u' => u' = u) (a := 0) (e := 6) (fun i s w _ _ hw => (lay1_m s).1 w hw) (fun u' s _ _ e => by rw [e]; exact (lay1_m s).2 t i ht h1 h2 ⟨hs, hg⟩) 6 0 [] (Nat.le_refl _) (by omega)).2 u (Nat.zero_le _) (by omega) rfl
theorem sta_K {dr : Nat → Bool} {on : Bool} {R : Nat → Bool} {t i : Nat} (h : sta tb dr on R t i = true) : oK (tb t) i = true := by
  unfold sta at h
  exact ((Bool.and_eq_true _ _).mp h).1
theorem LYo_lay {dr : Nat → Bool} {on : Bool} {R : Nat → Bool} {l : List Nat} {tn : Nat → Nat} (hT : T ≤ 64) (he : ∀ t, t < T → eObj (tb t) (tn t) = 0) (h : LI T tb (sta tb dr on R) 6 0 l) : LYo T tb l ∧ ∀ x, x ∈ l → oK (tb (x / 24)) (x % 24) = true := by
  have hk : ∀ x, x ∈ l → oK (tb (x / 24)) (x % 24) = true := fun x hx => sta_K ((h.2 x hx).1.2.2.2)
  refine ⟨⟨hT, ⟨LI_len hT h, fun x hx => ?_⟩, h.1, fun x hx => ?_⟩, hk⟩
  · have := (h.2 x hx).1
    exact ⟨by omega, this.2.1, this.2.2.1⟩
  · have := (h.2 x hx).1
    exact eObj_a (he (x / 24) (by omega)) this.2.2.1 (hk x hx)
end MLD
end
section
/-! the objects taken, as what follows reads them -/
def tOf (fs : px_FS) (tq : List Nat) (t : Nat) : Nat := (obT fs tq t).1
def tNf (fs : px_FS) (tq : List Nat) (t : Nat) : Nat := (obT fs tq t).2.1
def tQf (tq : List Nat) (t : Nat) : Nat := tq.getD t 0
section MOS
variable {fs : px_FS} {s : px_TK} {σ : px_S} {t : Nat}
theorem BK_T (hb : BK fs s) : s.2.2.1.length ≤ 64 := nodup_le 0 64 _ hb.2.2.2.2.2.1 (fun x hx => ⟨Nat.zero_le _, by have := (hb.2.2.2.2.2.2 x hx).1; omega⟩)
theorem obT_at (hb : BK fs s) (ht : t < s.2.2.1.length) : ∃ q, s.2.2.1[t]? = some q ∧ q < 64 ∧ obAt fs q = some (tOf fs s.2.2.1 t, tNf fs s.2.2.1 t, tB fs s.2.2.1 t, false) := by
  have e := List.getElem?_eq_getElem ht
  obtain ⟨h1, o, n, b, h2⟩ := hb.2.2.2.2.2.2 _ (List.mem_of_getElem? e)
  refine ⟨_, e, h1, ?_⟩
  have : obT fs s.2.2.1 t = (o, n, b, false) := by
    unfold obT
    rw [e]
    show (obAt fs _).getD _ = _
    rw [h2]; rfl
  unfold tOf tNf tB
  rw [this]
  exact h2
theorem OB_of (hr : RF σ fs) (hb : BK fs s) (h17 : ∀ i q, s.2.2.1[i]? = some q → gA σ 17 i = nI q) : ∀ t, t < s.2.2.1.length → OB σ t (tOf fs s.2.2.1 t) (tNf fs s.2.2.1 t) (tB fs s.2.2.1 t) := by
  intro t ht
  obtain ⟨q, h1, h2, h3⟩ := obT_at hb ht
  obtain ⟨a1, a2, a3, a4, a5, a6, a7⟩ := RF_ob hr h3
  have hT := BK_T hb
  exact ⟨⟨by omega, q, h2, h17 t q h1, a2⟩, a5, a6, a7 rfl, hr.2.2.1⟩
theorem RQ_of (hr : RF σ fs) (hb : BK fs s) (h17 : ∀ i q, s.2.2.1[i]? = some q → gA σ 17 i = nI q) : RQ σ s.2.2.1.length (tQf s.2.2.1) := by
  intro t ht
  obtain ⟨q, h1, h2, h3⟩ := obT_at hb ht
  have eq : tQf s.2.2.1 t = q := by unfold tQf; rw [List.getD_eq_getElem?_getD, h1]; rfl
  rw [eq]
  refine ⟨h2, h17 t q h1, ?_⟩
  unfold obAt at h3
  split at h3
  · cases h3
  · rename_i x hx
    split at h3
    · cases h3
    · rename_i l hl
      obtain ⟨_, _, _, r4⟩ := RF_row hr hx hl
      refine ⟨_, r4, fun ea => ?_⟩
      unfold fMem at hl
      rw [ea, if_neg (by decide)] at hl
      have hl := Option.some.inj hl
      rw [← hl] at h3
      by_cases c : q % 8 = 0
      · exact c
      · rw [List.getElem?_eq_none (by show 1 ≤ _; omega)] at h3
        cases h3
theorem WP_of (h : WK fs s) : WP s.2.2.1.length (tB fs s.2.2.1) s.2.1.1 s.1.2.1 := ⟨BK_T h.1, h.1.2.1, h.2.1, h.2.2.1, h.2.2.2.1⟩
theorem WP_own {T : Nat} {tb : Nat → Nat → Nat} {dr : Nat → Bool} {xs : px_NL} (h : WP T tb dr xs) : WP T tb dr (ownL xs) :=
  ⟨h.1, AL_own (P := fun x => okR x.2) (fun _ _ x _ hx => ⟨Nat.le_refl _, hx.2⟩) h.2.1, AL_own (P := byP T tb dr) (fun _ _ x h0 hx => byP_own x h0 hx) h.2.2.1, by rw [ownL_fst]; exact h.2.2.2.1, by rw [ownL_fst]; exact h.2.2.2.2⟩
theorem nmI_of (h : WK fs s) : nmI fs s.2.2.1 (ownL s.1.2.1) := by
  intro t q o n b hq ho k h1 hk hb
  have ht := (List.getElem?_eq_some_iff.mp hq).1
  obtain ⟨q', a1, a2, a3⟩ := obT_at h.1 ht
  rw [hq] at a1
  have e := Option.some.inj a1
  rw [← e, ho] at a3
  have a3 := Option.some.inj a3
  have eb : b = tB fs s.2.2.1 t := congrArg (fun x => x.2.2.1) a3
  rw [ownL_fst]
  rw [eb] at hk hb ⊢
  exact idx_iff.mpr (h.2.2.1 t k ht h1 hk hb)
end MOS
end
section
/-! how many symbols the objects taken have: as many as their bytes hold -/
def smN (g : Nat → Nat) : Nat → Nat
  | 0 => 0
  | n + 1 => smN g n + g n
theorem smN_s (g : Nat → Nat) (n : Nat) : smN g (n + 1) = smN g n + g n := rfl
theorem smN_le {g g' : Nat → Nat} : ∀ n, (∀ i, i < n → g i ≤ g' i) → smN g n ≤ smN g' n
  | 0, _ => Nat.le_refl _
  | n + 1, h => by
    rw [smN_s, smN_s]
    have h1 := smN_le n (fun i hi => h i (by omega))
    have h2 := h n (by omega)
    omega
theorem smN_c (g : Nat → Nat) : ∀ n, smN g (n + 1) = g 0 + smN (fun i => g (i + 1)) n
  | 0 => by show 0 + g 0 = g 0 + 0; omega
  | n + 1 => by rw [smN_s, smN_c g n, smN_s]; omega
theorem smN_l (d : Nat) : ∀ (n : Nat) (l : List Nat), smN (fun i => l.getD i 0) n ≤ l.sum
  | 0, _ => Nat.zero_le _
  | n + 1, [] => by
    have := smN_l d n []
    rw [smN_s]
    show _ + 0 ≤ _
    omega
  | n + 1, a :: l => by
    rw [smN_c, List.sum_cons]
    have := smN_l d n l
    show a + smN (fun i => l.getD i 0) n ≤ _
    omega
theorem sum_f {g : Nat → Nat} {N : Nat} : ∀ (l : List Nat), l.Nodup → (l.map g).sum ≤ ((l.filter (fun x => decide (x ≠ N))).map g).sum + g N
  | [], _ => Nat.zero_le _
  | a :: l, h => by
    have h1 := List.nodup_cons.mp h
    have ih := sum_f (g := g) (N := N) l h1.2
    rw [List.map_cons, List.sum_cons]
    by_cases c : a = N
    · have e2 : l.filter (fun x => decide (x ≠ N)) = l := List.filter_eq_self.mpr (fun x hx => decide_eq_true (fun (e : x = N) => h1.1 (by rw [c, ← e]; exact hx)))
      rw [List.filter_cons_of_neg (p := fun x => decide (x ≠ N)) (by rw [c]; simp), e2, c]
      omega
    · rw [List.filter_cons_of_pos (p := fun x => decide (x ≠ N)) (decide_eq_true c), List.map_cons, List.sum_cons]
      omega
theorem sum_nd {g : Nat → Nat} : ∀ (N : Nat) (l : List Nat), l.Nodup → (∀ x, x ∈ l → x < N) → (l.map g).sum ≤ smN g N
  | 0, l, _, h => by
    cases l with
    | nil => exact Nat.zero_le _
    | cons a l => exact absurd (h a (List.mem_cons_self ..)) (by omega)
  | N + 1, l, hd, h => by
    have h1 := sum_f (g := g) (N := N) l hd
    have h2 := sum_nd (g := g) N (l.filter (fun x => decide (x ≠ N))) (hd.filter _) (fun x hx => by
      have := List.mem_filter.mp hx
      have h3 := h x this.1
      have h4 := of_decide_eq_true this.2
      omega)
    rw [smN_s]
    omega
/-- slots counted by object -/
theorem slots_le {g : Nat → Nat} : ∀ (T : Nat) (l : List Nat), l.Nodup → (∀ z, z ∈ l → z / 2 / 64 < T ∧ z / 2 % 64 < g (z / 2 / 64)) → l.length ≤ 2 * smN g T
  | 0, l, _, h => by
    cases l with
    | nil => exact Nat.zero_le _
    | cons a l => exact absurd (h a (List.mem_cons_self ..)).1 (by omega)
  | T + 1, l, hd, h => by
    have h2 := slots_le (g := g) T (l.filter (fun z => decide (z / 2 / 64 ≠ T))) (hd.filter _) (fun z hz => by
      have := List.mem_filter.mp hz
      have h3 := h z this.1
      have h4 := of_decide_eq_true this.2
      exact ⟨by omega, h3.2⟩)
    have h1 : (l.filter (fun z => !decide (z / 2 / 64 ≠ T))).length ≤ 2 * g T := nodup_le (128 * T) _ _ (hd.filter _) (fun z hz => by
      have := List.mem_filter.mp hz
      have h3 := h z this.1
      have h4 : z / 2 / 64 = T := by
        have := this.2
        simpa using this
      rw [h4] at h3
      omega)
    have h5 : ∀ (p : Nat → Bool) (l : List Nat), l.length = (l.filter p).length + (l.filter (fun x => !p x)).length := by
      intro p l
      induction l with
      | nil => rfl
      | cons a l ih =>
        by_cases c : p a = true
        · rw [List.filter_cons_of_pos c, List.filter_cons_of_neg (by rw [c]; decide), List.length_cons, List.length_cons]; omega
        · rw [List.filter_cons_of_neg c, List.filter_cons_of_pos (by rw [Bool.eq_false_iff.mpr c]; rfl), List.length_cons, List.length_cons]; omega
    have h6 := h5 (fun z => decide (z / 2 / 64 ≠ T)) l
    rw [smN_s]
    omega
theorem ams_sum {b : Nat → Nat} {n : Nat} : ∀ {c p : Nat} {l : List (Nat × Nat × Bool)}, ams b n c p = some l → (l.map (fun x => x.2.1)).sum ≤ n - p
  | 0, p, l, h => by
    unfold ams at h
    split at h
    · cases h; exact Nat.zero_le _
    · cases h
  | c + 1, p, l, h => by
    rw [ams_s] at h
    split at h
    · cases h; exact Nat.zero_le _
    · split at h
      · rename_i c1 c2
        cases e : ams b n c (aX b p) with
        | none => rw [e] at h; cases h
        | some l' =>
          rw [e] at h
          cases h
          have h1 := ams_sum e
          have h2 : p + 60 + aV b p ≤ n := by
            have := (ams_le (b := b) (n := n) (c := c + 1) (p := p) (l := (p + 60, aV b p, decide (b p = 47)) :: l') (by rw [ams_s, if_neg c1, if_pos c2, e]; rfl)).2 _ (List.mem_cons_self ..)
            exact this
          rw [List.map_cons, List.sum_cons]
          have e3 : aX b p = p + 60 + aV b p + aV b p % 2 := rfl
          show aV b p + _ ≤ _
          omega
      · cases h
theorem fMem_sum {b : Nat → Nat} {n : Nat} {l : List (Nat × Nat × Bool)} (h : fMem b n = some l) : (l.map (fun x => x.2.1)).sum ≤ n := by
  unfold fMem at h
  split at h
  · have := ams_sum h; omega
  · cases h
    show n + 0 ≤ n
    omega
/-- the size of member q -/
def szQ (fs : px_FS) (q : Nat) : Nat := ((obAt fs q).map (fun y => y.2.1)).getD 0
theorem szQ_f {fs : px_FS} {f : Nat} : smN (fun k => szQ fs (8 * f + k)) 8 ≤ (fs.map Prod.fst).getD f 0 := by
  have hz : (∀ k, k < 8 → szQ fs (8 * f + k) = 0) → smN (fun k => szQ fs (8 * f + k)) 8 ≤ (fs.map Prod.fst).getD f 0 := fun h => by
    have h1 := smN_le (g := fun k => szQ fs (8 * f + k)) (g' := fun _ => 0) 8 (fun i hi => by show szQ fs (8 * f + i) ≤ 0; rw [h i hi]; exact Nat.le_refl _)
    have h2 : smN (fun _ => 0) 8 = 0 := rfl
    omega
  have e1 : ∀ k, k < 8 → (8 * f + k) / 8 = f ∧ (8 * f + k) % 8 = k := fun k hk => by omega
  cases hx : fs[f]? with
  | none =>
    refine hz (fun k hk => ?_)
    unfold szQ obAt
    rw [(e1 k hk).1, hx]; rfl
  | some x =>
    cases hl : fMem x.2 x.1 with
    | none =>
      refine hz (fun k hk => ?_)
      unfold szQ obAt
      simp only [(e1 k hk).1, hx, hl]; rfl
    | some l =>
      have e2 : (fs.map Prod.fst).getD f 0 = x.1 := by rw [List.getD_eq_getElem?_getD, List.getElem?_map, hx]; rfl
      have h1 := fMem_sum hl
      have h2 := smN_l 0 8 (l.map (fun x => x.2.1))
      have h3 := smN_le (g := fun k => szQ fs (8 * f + k)) (g' := fun i => (l.map (fun x => x.2.1)).getD i 0) 8 (fun k hk => by
        show szQ fs (8 * f + k) ≤ (l.map (fun x => x.2.1)).getD k 0
        unfold szQ obAt
        simp only [(e1 k hk).1, (e1 k hk).2, hx, hl, List.getD_eq_getElem?_getD, List.getElem?_map]
        cases l[k]? with
        | none => exact Nat.le_refl _
        | some y => exact Nat.le_refl _)
      rw [e2]
      omega
theorem smN_a (g : Nat → Nat) (a : Nat) : ∀ c, smN g (a + c) = smN g a + smN (fun k => g (a + k)) c
  | 0 => rfl
  | c + 1 => by
    rw [← Nat.add_assoc, smN_s, smN_s, smN_a g a c, Nat.add_assoc]
theorem smN_8 (g : Nat → Nat) : ∀ F, smN g (8 * F) = smN (fun f => smN (fun k => g (8 * f + k)) 8) F
  | 0 => rfl
  | F + 1 => by
    rw [smN_s, ← smN_8 g F, show 8 * (F + 1) = 8 * F + 8 by omega, smN_a]
theorem szQ_all {fs : px_FS} : smN (szQ fs) 64 ≤ (fs.map Prod.fst).sum := by
  rw [show (64:Nat) = 8 * 8 from rfl, smN_8]
  have h1 := smN_le (g := fun f => smN (fun k => szQ fs (8 * f + k)) 8) (g' := fun f => (fs.map Prod.fst).getD f 0) 8 (fun f _ => szQ_f)
  have h2 := smN_l 0 8 (fs.map Prod.fst)
  omega
theorem oM_n {b : Nat → Nat} {n : Nat} (h : eObj b n = 0) : 24 * oM b ≤ n := by
  have hw := (eObj_0 h).1
  unfold oM
  by_cases c : oY b = 0
  · rw [if_pos c]; omega
  · rw [if_neg c]
    have hl := oY_lt hw.1.2.1.1
    have ht := oY_T c
    have := hw.1.2.2.2.1 _ hl (by rw [ht]; decide) (by rw [ht]; decide)
    omega
theorem smN_t {g : Nat → Nat} {f : Nat → Nat} : ∀ (l : List Nat) (T : Nat), T ≤ l.length → (∀ t q, l[t]? = some q → f t ≤ g q) → smN f T ≤ ((l.take T).map g).sum
  | l, 0, _, _ => Nat.zero_le _
  | l, T + 1, hT, h => by
    have h1 := smN_t l T (by omega) h
    rw [smN_s, List.take_succ, List.map_append, List.sum_append, List.getElem?_eq_getElem (show T < l.length by omega)]
    have h2 := h T _ (List.getElem?_eq_getElem (show T < l.length by omega))
    show _ ≤ _ + (g l[T] + 0)
    omega
theorem SLN_of {fs : px_FS} {s : px_TK} (hf : FSo fs) (hb : BK fs s) (hs : (fs.map Prod.fst).sum ≤ 4096) : SLN s.2.2.1.length (tB fs s.2.2.1) := by
  intro l hl
  have h1 := slots_le (g := fun t => oM (tB fs s.2.2.1 t)) _ l hl.1 hl.2
  have h2 := smN_t (g := szQ fs) (f := fun t => 24 * oM (tB fs s.2.2.1 t)) s.2.2.1 s.2.2.1.length (Nat.le_refl _) (fun t q hq => by
    obtain ⟨q', a1, a2, a3⟩ := obT_at hb (List.getElem?_eq_some_iff.mp hq).1
    rw [hq] at a1
    have e := Option.some.inj a1
    rw [← e] at a3
    have h4 := oM_n (hf _ _ _ _ a3).2
    show 24 * oM (tB fs s.2.2.1 t) ≤ szQ fs q
    unfold szQ
    rw [a3]
    exact h4)
  rw [List.take_length] at h2
  have h3 := sum_nd (g := szQ fs) 64 s.2.2.1 hb.2.2.2.2.2.1 (fun q hq => (hb.2.2.2.2.2.2 q hq).1)
  have h4 := szQ_all (fs := fs)
  have h5 : ∀ (g : Nat → Nat) T, smN (fun t => 24 * g t) T = 24 * smN g T := by
    intro g T
    induction T with
    | zero => rfl
    | succ T ih => rw [smN_s, smN_s, ih]; omega
  rw [h5] at h2
  omega
end
section
/-! link of the reference: the start -/
abbrev liI : List Nat := [0, 13, 14, 20, 48, 50, 15, 69, 70, 74, 68, 88]
abbrev liJ : List Nat := [16, 87]
/-- a link begins -/
def LB (σ : px_S) : Prop := gI σ 13 = nI 0 ∧ gI σ 14 = nI 0 ∧ gI σ 20 = nI 0 ∧ gI σ 48 = nI 0 ∧ gI σ 69 = nI 0 ∧ gI σ 70 = nI 0 ∧ gI σ 74 = nI 0 ∧ gI σ 68 = nI 0 ∧ gI σ 0 = nI 0
section MLN
variable {F m : Nat} {h : px_H} {a : Int32}
theorem q_ln_72 (hm : m ≤ h.length) : ∀ (c k g : Nat) (σ : px_S), k + c = 1536 → c < g → (∀ i, i < k → gA σ 65 i = bI false) → ∃ σ', f_M_link_72 F g m a (nI k) (mh m h σ) = f_M_link_92 F m a (mh m h σ') ∧ RDr σ' (fun _ => false) ∧ FR [] [] [65] [] σ σ' := by
  intro c
  induction c with
  | zero =>
    intro k g σ hk hg h0
    obtain ⟨g, rfl⟩ : ∃ x, g = x + 1 := ⟨g - 1, by omega⟩
    unfold f_M_link_72
    rw [if_pos (nI_le (by omega) (by omega))]
    exact ⟨σ, rfl, fun i hi => h0 i (by omega), FR_refl σ⟩
  | succ c ih =>
    intro k g σ hk hg h0
    obtain ⟨g, rfl⟩ : ∃ x, g = x + 1 := ⟨g - 1, by omega⟩
    unfold f_M_link_72
    rw [if_neg (nI_ge (by omega) (by omega)), Mr65 hm, bs, Ms65 hm (by omega), bs, nI_add]
    have e1 : ∀ i, i < k + 1 → gA (sA σ 65 (upd (gA σ 65) k (nI 0 &&& 1))) 65 i = bI false := fun i hi => by
      rw [gA_sA, if_pos rfl]
      unfold upd
      by_cases c1 : i = k
      · rw [if_pos c1]; rfl
      · rw [if_neg c1]; exact h0 i (by omega)
    have e2 := FR_A σ 65 (upd (gA σ 65) k (nI 0 &&& 1))
    generalize sA σ 65 (upd (gA σ 65) k (nI 0 &&& 1)) = σ1 at *
    obtain ⟨σ', j1, j2, j3⟩ := ih (k + 1) g σ1 (by omega) (by omega) e1
    exact ⟨σ', j1, j2, FR_trans e2 j3⟩
theorem q_ln_0 {σ : px_S} (hm : m ≤ h.length) (hF : 65536 < F) : ∃ σ', f_M_link F m a (mh m h σ) = f_M_link_92 F m a (mh m h σ') ∧ LB σ' ∧ RDr σ' (fun _ => false) ∧ FR liI liJ [65] [] σ σ' := by
  unfold f_M_link
  have hz : ∀ σ : px_S, xpZ (mh m h σ) 12 68 m (nI 0) = some (mh m h (sI σ 68 (nI 0))) := fun σ => Mz68 hm false
  rw [Mp0 hm, bs, Mp13 hm, bs, Mp14 hm, bs, Mp20 hm, bs, Mp48 hm, bs, Mp50 hm, bs, Mp15 hm, bs, Mp16 hm, bs, Mp69 hm, bs, Mp70 hm, bs, Mp74 hm, bs, hz, bs, Mp88 hm, bs, Mp87 hm, bs]
  obtain ⟨σ1, hσ⟩ : ∃ x, x = sJ (sI (sI (sI (sI (sI (sJ (sI (sI (sI (sI (sI (sI (sI σ 0 (nI 0)) 13 (nI 0)) 14 (nI 0)) 20 (nI 0)) 48 (nI 0)) 50 (nI 0)) 15 (nI 0)) 16 (lN 0)) 69 (nI 0)) 70 (nI 0)) 74 (nI 0)) 68 (nI 0)) 88 (nI 0)) 87 (lN 0) := ⟨_, rfl⟩
  rw [← hσ]
  have hB : LB σ1 := by rw [hσ]; exact ⟨rfl, rfl, rfl, rfl, rfl, rfl, rfl, rfl, rfl⟩
  have hf : FR liI liJ [65] [] σ σ1 := by
    rw [hσ]
    have hI : ∀ (σ : px_S) k v, k ∈ liI → FR liI liJ [65] [] σ (sI σ k v) := fun σ k v hk => FR_mono (FR_I σ k v) (fun x hx => by rw [List.mem_singleton.mp hx]; exact hk) (fun _ q => nomatch q) (fun _ q => nomatch q) (fun _ q => nomatch q)
    have hJ : ∀ (σ : px_S) k v, k ∈ liJ → FR liI liJ [65] [] σ (sJ σ k v) := fun σ k v hk => FR_mono (FR_J σ k v) (fun _ q => nomatch q) (fun x hx => by rw [List.mem_singleton.mp hx]; exact hk) (fun _ q => nomatch q) (fun _ q => nomatch q)
    exact FR_trans (FR_trans (FR_trans (FR_trans (FR_trans (FR_trans (FR_trans (FR_trans (FR_trans (FR_trans (FR_trans (FR_trans (FR_trans (hI _ 0 _ (by decide)) (hI _ 13 _ (by decide))) (hI _ 14 _ (by decide))) (hI _ 20 _ (by decide))) (hI _ 48 _ (by decide))) (hI _ 50 _ (by decide))) (hI _ 15 _ (by decide))) (hJ _ 16 _ (by decide))) (hI _ 69 _ (by decide))) (hI _ 70 _ (by decide))) (hI _ 74 _ (by decide))) (hI _ 68 _ (by decide))) (hI _ 88 _ (by decide))) (hJ _ 87 _ (by decide))
  clear hσ
  obtain ⟨σ', j1, j2, j3⟩ := q_ln_72 (F := F) (a := a) (h := h) hm 1536 0 F σ1 rfl (by omega) (fun i hi => by omega)
  refine ⟨σ', j1, ?_, j2, FR_trans hf (FR_mono j3 (fun _ q => nomatch q) (fun _ q => nomatch q) (fun _ q => q) (fun _ q => nomatch q))⟩
  unfold LB
  rw [j3.1 13 (by decide), j3.1 14 (by decide), j3.1 20 (by decide), j3.1 48 (by decide), j3.1 69 (by decide), j3.1 70 (by decide), j3.1 74 (by decide), j3.1 68 (by decide), j3.1 0 (by decide)]
  exact hB
end MLN
end
section
/-! link of the reference: names told, objects taken, own names -/
abbrev taA : List Nat := 19 :: tkA
theorem frK_FR {σ σ' : px_S} (f : frK σ σ') : FR tkI [] taA [30] σ σ' := ⟨fun k hk => f.1 k (fun e => hk (by rw [e]; decide)) (fun e => hk (by rw [e]; decide)), fun k _ => f.2.1 k, fun k hk => f.2.2.1 k (fun e => hk (by rw [e]; decide)) (fun e => hk (by rw [e]; decide)) (fun e => hk (by rw [e]; decide)) (fun e => hk (by rw [e]; decide)) (fun e => hk (by rw [e]; decide)) (fun e => hk (by rw [e]; decide)) (fun e => hk (by rw [e]; decide)), fun k hk => f.2.2.2 k (fun e => hk (by rw [e]; decide))⟩
/-- what was taken, and the names -/
def LM (fs : px_FS) (s : px_TK) (xs : px_NL) (σ : px_S) : Prop := gI σ 14 = nI s.2.2.1.length ∧ RF σ fs ∧ RL σ xs ∧ RO σ s.1.2.2.1 ∧ RDr σ s.2.1.1 ∧ (gI σ 69 = nI s.2.1.2.1 ∧ RSg σ s.2.1.2.2) ∧ (∀ i q, s.2.2.1[i]? = some q → gA σ 17 i = nI q) ∧ ((∀ q, q < 64 → gA σ 18 q = bI (decide (q ∈ s.2.2.1))) ∧ ∀ f, f < fs.length → gA σ 19 f = bI true) ∧ ∀ q, q < 64 → gA σ 40 q = tdA (s.2.2.2 q)
abbrev lmI : List Nat := [5, 14, 20, 48, 69, 70]
abbrev lmA : List Nat := [6, 8, 9, 10, 11, 12, 17, 18, 19, 21, 22, 23, 24, 25, 26, 27, 28, 40, 49, 65, 71, 72, 73]
theorem LM_FR {fs : px_FS} {s : px_TK} {xs : px_NL} {σ σ' : px_S} {I J A B : List Nat} (h : LM fs s xs σ) (f : FR I J A B σ σ') (hI : ∀ k, k ∈ lmI → k ∉ I) (hA : ∀ k, k ∈ lmA → k ∉ A) (hB : 30 ∉ B) : LM fs s xs σ' := by
  obtain ⟨h1, h2, h3, h4, h5, ⟨h6, h7⟩, h8, h9, h10⟩ := h
  refine ⟨(f.1 14 (hI 14 (by decide))).trans h1, RF_FR h2 f (hI 5 (by decide)) ⟨hA 6 (by decide), hA 8 (by decide), hA 9 (by decide), hA 10 (by decide), hA 11 (by decide), hA 12 (by decide)⟩, RL_FR h3 f (hI 20 (by decide)) (fun k hk => hA k (by revert k; decide)) hB, RO_FR h4 f (hI 48 (by decide)) (hA 49 (by decide)), fun i hi => by rw [f.2.2.1 65 (hA 65 (by decide))]; exact h5 i hi, ⟨(f.1 69 (hI 69 (by decide))).trans h6, (f.1 70 (hI 70 (by decide))).trans h7.1, h7.2.1, fun i w hw => ?_⟩, fun i q hq => by rw [f.2.2.1 17 (hA 17 (by decide))]; exact h8 i q hq, ⟨fun q hq => by rw [f.2.2.1 18 (hA 18 (by decide))]; exact h9.1 q hq, fun q hq => by rw [f.2.2.1 19 (hA 19 (by decide))]; exact h9.2 q hq⟩, fun q hq => by rw [f.2.2.1 40 (hA 40 (by decide))]; exact h10 q hq⟩
  rw [f.2.2.1 71 (hA 71 (by decide)), f.2.2.1 72 (hA 72 (by decide)), f.2.2.1 6 (hA 6 (by decide))]
  exact h7.2.2 i w hw
section MLT
variable {F m : Nat} {h : px_H} {a : Int32} {fs : px_FS} {gs : List (List Nat × Int64)} {ws : List (List Nat)} {s : px_TK}
theorem q_ln_92 {σ : px_S} (hm : m ≤ h.length) (hF : 65536 < F) (hB : LB σ) (hd : RDr σ (fun _ => false)) (hr : RF σ fs) (hg : RG σ gs) (hw : RW σ ws) (hc : RC σ) (h3 : ∀ k, isB (gA σ 3 k)) (h4 : ∃ n, n ≤ 65536 ∧ gI σ 4 = nI n) (es : s = taL fs (xs0 gs ws) (od0 gs)) : ∃ σ', f_M_link_92 F m a (mh m h σ) = f_M_link_111 F m a (mh m h σ') ∧ gI σ' 13 = nI s.1.1 ∧ LM fs s (if s.1.1 = 0 then ownL s.1.2.1 else s.1.2.1) σ' ∧ BK fs s ∧ (∀ k, isB (gA σ' 3 k)) ∧ (∃ n, n ≤ 65536 ∧ gI σ' 4 = nI n) ∧ FR tkI [] taA [30] σ σ' := by
  obtain ⟨hB1, hB2, hB3, hB4, hB5, hB6, hB7, hB8, hB9⟩ := hB
  have hgl : gs.length ≤ 16 := by have := hg.2.1.1; rw [List.length_map] at this; exact this
  have hwl : ws.length ≤ 16 := hw.2.1
  obtain ⟨hS, _⟩ := ST0_xs hgl hwl
  obtain ⟨σ1, a1, a2, a3, a4⟩ := q_tellNames (F := F) (h := h) hm (by omega) hg hw hB3 hB4
  have f1 := frK_FR a4
  have a2 : RL σ1 (xs0 gs ws) := a2
  have a3 : RO σ1 (od0 gs) := a3
  have e13 : gI σ1 13 = nI 0 := (a4.1 13 (by decide) (by decide)).trans hB1
  have hr1 : RF σ1 fs := by
    have hFK : FR [20, 48] [] [21, 22, 23, 24, 28, 73, 49] [30] σ σ1 := ⟨fun k hk => a4.1 k (fun e => hk (by rw [e]; decide)) (fun e => hk (by rw [e]; decide)), fun k _ => a4.2.1 k, fun k hk => a4.2.2.1 k (fun e => hk (by rw [e]; decide)) (fun e => hk (by rw [e]; decide)) (fun e => hk (by rw [e]; decide)) (fun e => hk (by rw [e]; decide)) (fun e => hk (by rw [e]; decide)) (fun e => hk (by rw [e]; decide)) (fun e => hk (by rw [e]; decide)), fun k hk => a4.2.2.2 k (fun e => hk (by rw [e]; decide))⟩
    exact RF_FR hr hFK (by decide) (by decide)
  have g3 : gA σ1 3 = gA σ 3 := a4.2.2.1 3 (by decide) (by decide) (by decide) (by decide) (by decide) (by decide) (by decide)
  have g65 : gA σ1 65 = gA σ 65 := a4.2.2.1 65 (by decide) (by decide) (by decide) (by decide) (by decide) (by decide) (by decide)
  have hB3' : ∀ k, isB (gA σ1 3 k) := fun k => by rw [g3]; exact h3 k
  obtain ⟨σ2, b1, b2, b3, b4, b5, b6⟩ := q_takeAll (F := F) (h := h) (fs := fs) hm hF hr1 hB3' e13 a2 (fun i x hx => (hS.1 i x hx).1) hS.2.2.2.1 a3 hS.2.2.2.2 (fun i hi => by rw [g65]; exact hd i hi) ((a4.1 69 (by decide) (by decide)).trans hB5) ((a4.1 70 (by decide) (by decide)).trans hB6) ((a4.1 14 (by decide) (by decide)).trans hB2)
  rw [← es] at b2 b3
  obtain ⟨k1, k2, k3, k4, k5, k6, k7, k8, k9, k10, k11⟩ := b2
  have hB32 := OU_3 k4 hB3'
  have h42 : ∃ n, n ≤ 65536 ∧ gI σ2 4 = nI n := by
    obtain ⟨n, n1, n2⟩ := h4
    cases eo : s.1.2.2.2 with
    | none => exact ⟨n, n1, (k4.1 eo).1.trans ((a4.1 4 (by decide) (by decide)).trans n2)⟩
    | some w =>
      have := k4.2 w eo
      exact ⟨w.length, this.2.1, this.1⟩
  have fT : FR tkI [] taA [30] σ σ2 := FR_trans f1 b6
  have hLM : LM fs s s.1.2.1 σ2 := ⟨k8, b4, k2, k3, k5, ⟨k6, k7⟩, k9, ⟨k10, b5⟩, k11⟩
  unfold f_M_link_92
  rw [e_o hm, bs, a1, xb_mk, e_o hm, bs, b1, xb_mk, Mg13 hm, bs, k1]
  by_cases c : s.1.1 = 0
  · rw [if_pos (by rw [c]; rfl), if_pos c]
    have hc2 : RC σ2 := RC_FR hc fT (by decide) (by decide)
    obtain ⟨σ3, d1, d2, d3⟩ := q_ownNames (F := F) (h := h) hm (by omega) k2 b3.2.1 hc2
    refine ⟨σ3, ?_, (d3.1 13 (by decide)).trans k1, ?_, b3, fun k => by rw [d3.2.2.1 3 (by decide)]; exact hB32 k, ?_, FR_trans fT (FR_mono d3 (by decide) (by decide) (by decide) (by decide))⟩
    · rw [e_o hm, bs, d1, xb_mk]
    · refine ⟨(d3.1 14 (by decide)).trans k8, RF_FR b4 d3 (by decide) (by decide), d2, RO_FR k3 d3 (by decide) (by decide), fun i hi => by rw [d3.2.2.1 65 (by decide)]; exact k5 i hi, ⟨(d3.1 69 (by decide)).trans k6, (d3.1 70 (by decide)).trans k7.1, k7.2.1, fun i w hw => ?_⟩, fun i q hq => by rw [d3.2.2.1 17 (by decide)]; exact k9 i q hq, ⟨fun q hq => by rw [d3.2.2.1 18 (by decide)]; exact k10 q hq, fun q hq => by rw [d3.2.2.1 19 (by decide)]; exact b5 q hq⟩, fun q hq => by rw [d3.2.2.1 40 (by decide)]; exact k11 q hq⟩
      rw [d3.2.2.1 71 (by decide), d3.2.2.1 72 (by decide), d3.2.2.1 6 (by decide)]
      exact k7.2.2 i w hw
    · obtain ⟨n, n1, n2⟩ := h42
      exact ⟨n, n1, (d3.1 4 (by decide)).trans n2⟩
  · have hs2 := b3.1
    rw [if_neg (show ¬ nI s.1.1 = 0 from fun q => c ((nI_eq (b := 0) (by omega) (by decide)).mp q)), if_neg c]
    exact ⟨σ2, rfl, k1, hLM, b3, hB32, h42, fT⟩
end MLT
end
section
/-! link of the reference: names left, what is reached -/
/-- the answer when names are looked at -/
def anN (fs : px_FS) (ws : List (List Nat)) (s : px_TK) (xs : px_NL) : Nat := if s.1.1 = 0 then (if lkA fs ws s xs = true then 2 else 0) else s.1.1
theorem RW_FR {σ σ' : px_S} {I J A B : List Nat} {ws : List (List Nat)} (h : RW σ ws) (f : FR I J A B σ σ') (h1 : 32 ∉ I) (h2 : 34 ∉ A ∧ 36 ∉ A) : RW σ' ws := ⟨(f.1 32 h1).trans h.1, RN_eq h.2 (f.2.2.1 34 h2.1) (f.2.2.1 36 h2.2)⟩
theorem RG_FR {σ σ' : px_S} {I J A B : List Nat} {gs : List (List Nat × Int64)} (h : RG σ gs) (f : FR I J A B σ σ') (h1 : 31 ∉ I) (h2 : 33 ∉ A ∧ 35 ∉ A) (h3 : 37 ∉ B) : RG σ' gs := by
  refine ⟨(f.1 31 h1).trans h.1, RN_eq h.2.1 (f.2.2.1 33 h2.1) (f.2.2.1 35 h2.2), fun i x hx => ?_⟩
  rw [f.2.2.2 37 h3]; exact h.2.2 i x hx
section MLU
variable {F m : Nat} {h : px_H} {a : Int32} {fs : px_FS} {gs : List (List Nat × Int64)} {ws : List (List Nat)} {s : px_TK} {xs : px_NL}
theorem q_ln_111 {σ : px_S} (hm : m ≤ h.length) (hF : 65536 < F) (h13 : gI σ 13 = nI s.1.1) (hL : LM fs s xs σ) (hb : WK fs s) (hx : s.1.1 = 0 → xs = ownL s.1.2.1) (hw : RW σ ws) (hwn : ∀ w, w ∈ ws → w ∈ s.1.2.1.map Prod.fst) (hc : RC σ) (h3 : ∀ k, isB (gA σ 3 k)) (h4 : ∃ n, n ≤ 65536 ∧ gI σ 4 = nI n) : ∃ σ', f_M_link_111 F m a (mh m h σ) = f_M_link_122 F m a (mh m h σ') ∧ gI σ' 13 = nI (anN fs ws s xs) ∧ LM fs s xs σ' ∧ (∀ k, isB (gA σ' 3 k)) ∧ (∃ n, n ≤ 65536 ∧ gI σ' 4 = nI n) ∧ FR [4, 13] [] [3] [] σ σ' := by
  have hs2 := hb.1.1
  unfold f_M_link_111 anN
  rw [Mg13 hm, bs, h13]
  by_cases c : s.1.1 = 0
  · rw [if_pos (by rw [c]; rfl), if_pos c]
    obtain ⟨l1, l2, l3, l4, l5, l6, l7, l8, l9⟩ := hL
    have ex := hx c
    have hWP : WP s.2.2.1.length (tB fs s.2.2.1) s.2.1.1 xs := by rw [ex]; exact WP_own (WP_of hb)
    obtain ⟨σ', a1, a2, a3⟩ := q_look2 (F := F) (h := h) (s := s) (σ0 := σ) (ws := ws) (xs := xs) (fs := fs) hm hF l2 h3 hb.1 l5 l1 l7 l3 hWP.2.1 hc (by rw [h13, c]) (by rw [ex]; exact nmI_of hb) hw (fun w hq => by
      rw [ex, ownL_fst]; exact idx_iff.mpr (hwn w hq))
    rw [e_o hm, bs, a1, xb_mk]
    refine ⟨σ', rfl, ?_⟩
    cases ek : lkA fs ws s xs with
    | false =>
      rw [a2 ek, if_neg (by decide)]
      exact ⟨by rw [h13, c], ⟨l1, l2, l3, l4, l5, l6, l7, l8, l9⟩, h3, h4, FR_refl σ⟩
    | true =>
      obtain ⟨b1, b2, b3, n, b4, b5⟩ := a3 ek
      rw [if_pos rfl]
      exact ⟨b1, LM_FR ⟨l1, l2, l3, l4, l5, l6, l7, l8, l9⟩ b2 (by decide) (by decide) (by decide), b3, ⟨n, by omega, b5⟩, b2⟩
  · rw [if_neg (show ¬ nI s.1.1 = 0 from fun q => c ((nI_eq (b := 0) (by omega) (by decide)).mp q)), if_neg c]
    exact ⟨σ, rfl, h13, hL, h3, h4, FR_refl σ⟩
/-- what is reached, if that is asked -/
def RRo (T : Nat) (tb : Nat → Nat → Nat) (dr : Nat → Bool) (xs : px_NL) (on : Bool) (R rn : Nat → Bool) : Prop := on = true → (∀ x, R x = true ↔ Rch T tb dr xs (stR tb dr xs) x) ∧ ∀ i, rn i = true ↔ RcN T tb dr xs (stR tb dr xs) (stC xs) i
theorem q_ln_122 {σ : px_S} {rc on : Bool} (hm : m ≤ h.length) (hF : 65536 < F) (h13 : gI σ 13 = nI (anN fs ws s xs)) (hL : LM fs s xs σ) (hb : WK fs s) (hW : WP s.2.2.1.length (tB fs s.2.2.1) s.2.1.1 xs) (hc : RC σ) (h98 : ∃ ch, gI σ 98 = bI ch) (h68 : gI σ 68 = nI 0) (hon : on = (decide (anN fs ws s xs = 0) && rc)) : ∃ (σ' : px_S) (R rn : Nat → Bool), f_M_link_122 F m (bI rc) (mh m h σ) = f_M_link_137 F m (mh m h σ') ∧ RSt σ' on R ∧ RRn σ' xs on rn ∧ RRo s.2.2.1.length (tB fs s.2.2.1) s.2.1.1 xs on R rn ∧ (∃ ch, gI σ' 98 = bI ch) ∧ FR [68, 98] [] [66, 67] [] σ σ' := by
  have hs2 := hb.1.1
  have ha : anN fs ws s xs ≤ 2 := by unfold anN; repeat (first | omega | split)
  unfold f_M_link_122
  rw [Mg13 hm, bs, h13]
  have skip : on = false → ∃ (σ' : px_S) (R rn : Nat → Bool), f_M_link_137 F m (mh m h σ) = f_M_link_137 F m (mh m h σ') ∧ RSt σ' on R ∧ RRn σ' xs on rn ∧ RRo s.2.2.1.length (tB fs s.2.2.1) s.2.1.1 xs on R rn ∧ (∃ ch, gI σ' 98 = bI ch) ∧ FR [68, 98] [] [66, 67] [] σ σ' := fun e => by
    rw [e]
    exact ⟨σ, fun _ => false, fun _ => false, rfl, ⟨h68, fun q => absurd q (by decide)⟩, ⟨h68, fun q => absurd q (by decide)⟩, (fun q => absurd q (by decide)), h98, FR_refl σ⟩
  by_cases c : anN fs ws s xs = 0
  · rw [if_pos (by rw [c]; rfl)]
    cases erc : rc with
    | false =>
      rw [if_pos (show bI false = 0 from rfl)]
      exact skip (by rw [hon, erc, Bool.and_false])
    | true =>
      rw [if_neg (show ¬ bI true = 0 by decide)]
      obtain ⟨l1, l2, l3, l4, l5, l6, l7, l8, l9⟩ := hL
      have hst : (dfI wST xs).isSome = true := by
        unfold anN at c
        by_cases c1 : s.1.1 = 0
        · rw [if_pos c1] at c
          by_cases c2 : lkA fs ws s xs = true
          · rw [if_pos c2] at c; cases c
          · have c2 := Bool.eq_false_iff.mpr c2
            unfold lkA at c2
            rw [Bool.or_eq_false_iff, Bool.or_eq_false_iff] at c2
            have := c2.2.2
            cases e : dfI wST xs with
            | none => rw [e] at this; cases this
            | some i => rfl
        · rw [if_neg c1] at c; exact absurd c c1
      obtain ⟨σ', a1, ⟨R, rn, r1, r2, r3, r4, r5⟩, a3, a4⟩ := q_reach (F := F) (h := h) (xs := xs) hm hF hW ⟨OB_of l2 hb.1 l7, l5, l3⟩ l1 hc hst h98
      have eon : on = true := by rw [hon, erc, c]; rfl
      rw [e_o hm, bs, a1, xb_mk, eon]
      exact ⟨σ', R, rn, rfl, ⟨a3, fun _ => r1⟩, ⟨a3, fun _ => r2⟩, fun _ => ⟨r3, r4⟩, r5, a4⟩
  · rw [if_neg (show ¬ nI (anN fs ws s xs) = 0 from fun q => c ((nI_eq (b := 0) (by omega) (by decide)).mp q))]
    exact skip (by rw [hon, decide_eq_false c, Bool.false_and])
end MLU
end
section
/-! link of the reference: pool, slots, layout, sites, writing -/
def naF (OV : Nat → Nat → Int64) (OK : Nat → Nat) (na : Nat → Nat) (xs : px_NL) (j : Nat) : Int64 := naV OV OK na j (xs.getD j ([], nr0)).2
def svF (B : Nat → Nat) (tO : Nat → Nat) (tb : Nat → Nat → Nat) (dr : Nat → Bool) (xs : px_NL) (sy : Nat → Nat → Bool) (ll sl : List Nat) (NA : Nat → Int64) (ad : Nat → Nat) (sp tp pp : Nat) (t i j : Nat) : Int64 := siV B (pf0 B tO tb ll) tO tb dr xs sy sl (syA tb xs (ownV B (pf0 B tO tb ll) tO tb dr sy pp ad) NA) (siA tb ad t i j) sp tp pp t i j
/-- the answer of a link whose names are all there -/
def lnE (T : Nat) (tO : Nat → Nat) (tb : Nat → Nat → Nat) (dr : Nat → Bool) (xs : px_NL) (od : List Nat) (on : Bool) (rn : Nat → Bool) (B : Nat → Nat) (sy : Nat → Nat → Bool) (ll sl : List Nat) (th : Nat → Bool) (a : Nat) : Prop := ∃ (fe0 bg0 : Nat) (G0 : px_PG) (fe1 mem1 bg1 : Nat) (G1 : px_PG) (fe2 mem2 bg2 : Nat) (G4 G5 G2 : px_PG) (sp : Nat) (G3 CM : px_PG) (fe3 : Nat), LYe B tO tb ll xs od sl.length on rn th fe0 bg0 G0 fe1 mem1 bg1 G1 fe2 mem2 bg2 G4 G5 G2 sp G3 CM fe3 ∧ a = if lyA th (G0.1 - bg0) (G1.1 + psz B (pf0 B tO tb ll) - bg1) (CM.1 - bg2) fe3 = true then 3 else if ex1 (ovT (svF B tO tb dr xs sy ll sl (naF (ownV B (pf0 B tO tb ll) tO tb dr sy G1.1 G3.2.1) (ownK G0.1 bg2 (sp + 8 * sl.length - bg2) (CM.2.2.getD CM.1) (CM.1 - bg2)) CM.2.1 xs) G3.2.1 sp (tpN bg2 (ll.foldl (ft1 tb G3.2.1) (false, 0, 1, 0))) G1.1) tb sy) 0 T = true then 4 else 0
/-- all that the layout found -/
abbrev px_VV : Type := Nat × Nat × px_PG × Nat × Nat × Nat × px_PG × Nat × Nat × Nat × px_PG × px_PG × px_PG × Nat × px_PG × px_PG × Nat
def vFe (V : px_VV) : Nat := V.2.2.2.2.2.2.2.2.2.2.2.2.2.2.2.2
/-- the addresses of a link: of sections, of names -/
def LKX (tO : Nat → Nat) (tb : Nat → Nat → Nat) (dr : Nat → Bool) (xs : px_NL) (od : List Nat) (on : Bool) (rn : Nat → Bool) (B : Nat → Nat) (sy : Nat → Nat → Bool) (ll sl : List Nat) (th : Nat → Bool) (ad : Nat → Nat) (NA : Nat → Int64) (V : px_VV) : Prop := ∃ (fe0 bg0 : Nat) (G0 : px_PG) (fe1 mem1 bg1 : Nat) (G1 : px_PG) (fe2 mem2 bg2 : Nat) (G4 G5 G2 : px_PG) (sp : Nat) (G3 CM : px_PG) (fe3 : Nat), LYe B tO tb ll xs od sl.length on rn th fe0 bg0 G0 fe1 mem1 bg1 G1 fe2 mem2 bg2 G4 G5 G2 sp G3 CM fe3 ∧ ad = G3.2.1 ∧ NA = naF (ownV B (pf0 B tO tb ll) tO tb dr sy G1.1 G3.2.1) (ownK G0.1 bg2 (sp + 8 * sl.length - bg2) (CM.2.2.getD CM.1) (CM.1 - bg2)) CM.2.1 xs ∧ V = (fe0, bg0, G0, fe1, mem1, bg1, G1, fe2, mem2, bg2, G4, G5, G2, sp, G3, CM, fe3)
/-- the file's size, the segments that are there -/
def LKZ (σ : px_S) (fe : Nat) (th : Nat → Bool) : Prop := fe ≤ 65536 ∧ gI σ 43 = nI fe ∧ gI σ 15 = nI (sgN th 3) ∧ ∀ j, j < 3 → gA σ 59 j = bI (th j)
/-- what a link that was done leaves for the calls after it -/
def LKD (σ : px_S) (od : List Nat) : Prop := (∃ fe, fe ≤ 65536 ∧ gI σ 43 = nI fe) ∧ (∀ (Q n : Nat), od[Q]? = some n → okS (gA σ 39 n)) ∧ ∃ th : Nat → Bool, gI σ 15 = nI (sgN th 3) ∧ ∀ j, j < 3 → gA σ 59 j = bI (th j)
section MLV
variable {F m : Nat} {h : px_H} {σ : px_S} {a : Nat}
theorem sk_197 (hm : m ≤ h.length) (h13 : gI σ 13 = nI a) (h0 : a ≠ 0) (h1 : a < 2 ^ 31) : f_M_link_197 F m (mh m h σ) = some (nI a, mh m h σ) := by
  unfold f_M_link_197 f_M_link_208
  rw [Mg13 hm, bs, h13, if_neg (show ¬ nI a = 0 from fun q => h0 ((nI_eq (b := 0) (by omega) (by decide)).mp q)), bs]
theorem sk_186 (hm : m ≤ h.length) (h13 : gI σ 13 = nI a) (h0 : a ≠ 0) (h1 : a < 2 ^ 31) : f_M_link_186 F m (mh m h σ) = some (nI a, mh m h σ) := by
  unfold f_M_link_186
  rw [Mg13 hm, bs, h13, if_neg (show ¬ nI a = 0 from fun q => h0 ((nI_eq (b := 0) (by omega) (by decide)).mp q)), sk_197 hm h13 h0 h1]
theorem sk_174 (hm : m ≤ h.length) (h13 : gI σ 13 = nI a) (h0 : a ≠ 0) (h1 : a < 2 ^ 31) : f_M_link_174 F m (mh m h σ) = some (nI a, mh m h σ) := by
  unfold f_M_link_174
  rw [Mg13 hm, bs, h13, if_neg (show ¬ nI a = 0 from fun q => h0 ((nI_eq (b := 0) (by omega) (by decide)).mp q)), sk_186 hm h13 h0 h1]
theorem sk_163 (hm : m ≤ h.length) (h13 : gI σ 13 = nI a) (h0 : a ≠ 0) (h1 : a < 2 ^ 31) : f_M_link_163 F m (mh m h σ) = some (nI a, mh m h σ) := by
  unfold f_M_link_163
  rw [Mg13 hm, bs, h13, if_neg (show ¬ nI a = 0 from fun q => h0 ((nI_eq (b := 0) (by omega) (by decide)).mp q)), sk_174 hm h13 h0 h1]
theorem sk_152 (hm : m ≤ h.length) (h13 : gI σ 13 = nI a) (h0 : a ≠ 0) (h1 : a < 2 ^ 31) : f_M_link_152 F m (mh m h σ) = some (nI a, mh m h σ) := by
  unfold f_M_link_152
  rw [Mg13 hm, bs, h13, if_neg (show ¬ nI a = 0 from fun q => h0 ((nI_eq (b := 0) (by omega) (by decide)).mp q)), sk_163 hm h13 h0 h1]
end MLV
abbrev leI : List Nat := [4, 13, 15, 43, 74, 82, 88, 89]
abbrev leJ : List Nat := 16 :: lyJ
abbrev leA : List Nat := [3, 38, 39, 42, 59, 75, 76, 77, 78, 91, 92, 93, 94, 95]
abbrev leB : List Nat := 41 :: lyB
section MLW
variable {F m T : Nat} {h : px_H} {B : Nat → Nat} {tb : Nat → Nat → Nat} {tO tn tq : Nat → Nat} {dr : Nat → Bool} {xs : px_NL} {ll sl od : List Nat} {on : Bool} {R rn : Nat → Bool} {th : Nat → Bool}
theorem q_ln_E {σ : px_S} (hm : m ≤ h.length) (hF : 65540 < F) (hll : ll = layL T tb (sta tb dr on R)) (hsl : sl = slL T tb dr xs (sta tb dr on R)) (hth : th = thS tb ll xs od on rn sl.length) (hWP : WP T tb dr xs) (hY : LYo T tb ll) (hkp : ∀ x, x ∈ ll → oK (tb (x / 24)) (x % 24) = true) (hN : SLN T tb) (hcm : AL cmP xs) (hod : ∀ d, d ∈ od → d < xs.length) (hoS : ∀ d, d ∈ od → stN xs d = 1 ∨ stN xs d = 2 ∨ stN xs d = 3) (hst : (dfI wST xs).isSome = true) (h13 : gI σ 13 = nI 0) (h14 : gI σ 14 = nI T) (h74 : gI σ 74 = nI 0) (hR : RWd σ T tO tn tb dr xs) (hO : RO σ od) (hs : RSt σ on R) (hn : RRn σ xs on rn) (hLa : RLa σ tq tb ll) (hB : RB σ B) (hC : RC σ) (h3 : ∀ k, isB (gA σ 3 k)) (h4 : ∃ n, n ≤ 65536 ∧ gI σ 4 = nI n) (h42 : ∀ k, isB (gA σ 42 k)) (h91 : ∀ k, isB (gA σ 91 k)) : ∃ (σ' : px_S) (a : Nat), ((xo (mh m h σ) 12 m).bind fun _ => xb (f_M_findPool F m (mh m h σ)) fun _ ph3 => f_M_link_152 F m ph3) = some (nI a, mh m h σ') ∧ gI σ' 13 = nI a ∧ lnE T tO tb dr xs od on rn B (sta tb dr on R) ll sl th a ∧ (∀ k, isB (gA σ' 3 k)) ∧ (∃ n, n ≤ 65536 ∧ gI σ' 4 = nI n) ∧ (∀ k, isB (gA σ' 42 k)) ∧ (∀ k, isB (gA σ' 91 k)) ∧ (a ≠ 0 → FR leI leJ [59, 75, 76, 77, 78, 91, 92, 93, 94, 95] lyB σ σ' ∧ gI σ' 43 = gI σ 43) ∧ (a = 0 → LKD σ' od ∧ ∃ ad NA V, LKX tO tb dr xs od on rn B (sta tb dr on R) ll sl th ad NA V ∧ (∀ (P x : Nat), ll[P]? = some x → gB σ' 57 P = lN (ad x)) ∧ (∀ j, j < xs.length → gB σ' 29 j = NA j) ∧ LKZ σ' (vFe V) th) ∧ FR leI leJ leA leB σ σ' := by
  have hS : llS T tb (sta tb dr on R) ll := by rw [hll]; exact llS_lay
  have hl := hY.2.1
  subst hsl
  obtain ⟨σ2, a1, a2, a3, a4, a5⟩ := q_findPool (F := F) (h := h) (σ := σ) hm hF hl ⟨hR.1, hLa, hB⟩ h91
  obtain ⟨σ3, b1, b2, b3, b4⟩ := q_findSlots (F := F) (h := h) (σ := σ2) (xs := xs) (on := on) (R := R) hm (by omega) hN hWP ⟨RWd_FR hR a5 (by decide) (by decide) (by decide), RSt_FR hs a5 (by decide) (by decide), (a5.1 14 (by decide)).trans h14⟩ ((a5.1 74 (by decide)).trans h74)
  have f3 : FR [74, 88, 89] [] [75, 76, 77, 78, 91, 92, 93, 94, 95] [] σ σ3 := FR_trans (FR_mono a5 (by decide) (by decide) (by decide) (by decide)) (FR_mono b4 (by decide) (by decide) (by decide) (by decide))
  have hW3 : RWp σ3 T tO tn tq tb ll B := RWp_FR ⟨hR.1, hLa, hB⟩ f3 (by decide) (by decide)
  have hpo3 : RPo σ3 B (nd0 B tO tb ll) (pf0 B tO tb ll) := RPo_FR a2 b4 (by decide) (by decide)
  have hR3 := RWd_FR hR f3 (by decide) (by decide) (by decide)
  have hs3 := RSt_FR hs f3 (by decide) (by decide)
  have hn3 := RRn_FR hn f3 (by decide) (by decide)
  have hO3 := RO_FR hO f3 (by decide) (by decide)
  have hns := hN _ b3
  have hown : ∀ (i : Nat) (x : List Nat × px_NR), xs[i]? = some x → x.2.2.2.1 < 2 ^ 31 := fun i x hx => by have := (hcm i x hx).2; omega
  obtain ⟨σ4, fe0, bg0, G0, fe1, mem1, bg1, G1, fe2, mem2, bg2, G4, G5, G2, sp, G3, CM, fe3, y1, y2, y3, ⟨y4, y5, y6⟩, ⟨y7, y8, y9⟩, ⟨y10, y11, y12, y13⟩, y14, y15, y16, y17⟩ := q_layout (F := F) (h := h) (σ := σ3) (od := od) (rn := rn) (ns := (slL T tb dr xs (sta tb dr on R)).length) (th := th) hm hF hY hWP hown hW3 a4 a3 hpo3 hR3.2.1 hs3 hS ⟨hW3.2.1, hR3.2.2, hO3, hn3, b2.1⟩ hod (cmOK_of hcm) hns ((f3.1 13 (by decide)).trans h13) hth
  have F4 : FR leI leJ [59, 75, 76, 77, 78, 91, 92, 93, 94, 95] lyB σ σ4 := FR_trans (FR_mono f3 (by decide) (by decide) (by decide) (by decide)) (FR_mono y17 (by decide) (by decide) (by decide) (by decide))
  have F4a : FR [13, 15, 74, 82, 88, 89] lyJ [59, 75, 76, 77, 78, 91, 92, 93, 94, 95] lyB σ σ4 := FR_trans (FR_mono f3 (by decide) (by decide) (by decide) (by decide)) (FR_mono y17 (by decide) (by decide) (by decide) (by decide))
  have g3 : ∀ k, isB (gA σ4 3 k) := fun k => by rw [F4.2.2.1 3 (by decide)]; exact h3 k
  have g42 : ∀ k, isB (gA σ4 42 k) := fun k => by rw [F4.2.2.1 42 (by decide)]; exact h42 k
  have g91 : ∀ k, isB (gA σ4 91 k) := fun k => by rw [y17.2.2.1 91 (by decide)]; exact hpo3.2.2.2 k
  have g4 : ∃ n, n ≤ 65536 ∧ gI σ4 4 = nI n := by
    obtain ⟨n, n1, n2⟩ := h4
    exact ⟨n, n1, (F4a.1 4 (by decide)).trans n2⟩
  have e0 : ((xo (mh m h σ) 12 m).bind fun _ => xb (f_M_findPool F m (mh m h σ)) fun _ ph3 => f_M_link_152 F m ph3) = f_M_link_174 F m (mh m h σ4) := by
    rw [e_o hm, bs, a1, xb_mk]
    unfold f_M_link_152
    rw [Mg13 hm, bs, (a5.1 13 (by decide)).trans h13, if_pos (show nI 0 = 0 from rfl), e_o hm, bs, b1, xb_mk]
    unfold f_M_link_163
    rw [Mg13 hm, bs, (f3.1 13 (by decide)).trans h13, if_pos (show nI 0 = 0 from rfl), e_o hm, bs, y2, xb_mk]
  rw [e0]
  clear e0 y2 b1 a1
  cases eA : lyA th (G0.1 - bg0) (G1.1 + psz B (pf0 B tO tb ll) - bg1) (CM.1 - bg2) fe3 with
  | true =>
    rw [eA, if_pos rfl] at y3
    refine ⟨σ4, 3, sk_174 hm y3 (by decide) (by decide), y3, ⟨fe0, bg0, G0, fe1, mem1, bg1, G1, fe2, mem2, bg2, G4, G5, G2, sp, G3, CM, fe3, y1, by rw [eA, if_pos rfl]⟩, g3, g4, g42, g91, fun _ => ⟨F4, F4a.1 43 (by decide)⟩, fun q => absurd q (by decide), FR_mono F4 (by decide) (by decide) (by decide) (by decide)⟩
  | false =>
    rw [eA, if_neg (by decide)] at y3
    have hfe : fe3 ≤ 65536 := by
      unfold lyA at eA
      rw [Bool.or_eq_false_iff, Bool.or_eq_false_iff, Bool.or_eq_false_iff] at eA
      have := of_decide_eq_false eA.2.2
      omega
    have hRo := LY_room hY hth rfl y1 hfe y16
    have had : ∀ x, x ∈ ll → gB σ4 58 x = lN (G3.2.1 x) := fun x hx => by
      obtain ⟨P, hP⟩ := List.mem_iff_getElem?.mp hx
      exact (y14 P x hP trivial).2
    obtain ⟨NA, eNA⟩ : ∃ NA, NA = naF (ownV B (pf0 B tO tb ll) tO tb dr (sta tb dr on R) G1.1 G3.2.1) (ownK G0.1 bg2 (sp + 8 * (slL T tb dr xs (sta tb dr on R)).length - bg2) (CM.2.2.getD CM.1) (CM.1 - bg2)) CM.2.1 xs := ⟨_, rfl⟩
    have hNA : ∀ j, j < xs.length → gB σ4 29 j = NA j := fun j hj => by
      rw [eNA, y15 j _ (List.getElem?_eq_getElem hj)]
      unfold naF
      rw [getD_at (List.getElem?_eq_getElem hj)]
    have hsl4 : RSl tb xs σ4 (slL T tb dr xs (sta tb dr on R)) := ⟨(y17.1 74 (by decide)).trans b2.1, fun p z hz => by
      unfold RSr
      rw [y17.2.2.1 78 (by decide), y17.2.2.1 75 (by decide), y17.2.2.1 76 (by decide), y17.2.2.1 77 (by decide)]
      exact b2.2 p z hz⟩
    have hR4 := RWd_FR hR F4a (by decide) (by decide) (by decide)
    have hs4 := RSt_FR hs F4a (by decide) (by decide)
    have hFn : RFn σ4 T tO tn tq tb dr xs on R ll B (slL T tb dr xs (sta tb dr on R)) NA G3.2.1 sp (tpN bg2 (ll.foldl (ft1 tb G3.2.1) (false, 0, 1, 0))) G1.1 := ⟨⟨RWp_FR hW3 y17 (by decide) (by decide), RPo_FR hpo3 y17 (by decide) (by decide)⟩, ⟨hR4.2.1, hs4, hR4.2.2⟩, hsl4, hNA, had, y11, y13, y12, (F4a.1 14 (by decide)).trans h14⟩
    have hFN : FNo T tO tb dr xs (sta tb dr on R) ll B (slL T tb dr xs (sta tb dr on R)) := ⟨hWP, hl, a4, a3, hS, hN, b3⟩
    obtain ⟨σ5, c1, c2⟩ := q_sites (F := F) (h := h) (SV := svF B tO tb dr xs (sta tb dr on R) ll (slL T tb dr xs (sta tb dr on R)) NA G3.2.1 sp (tpN bg2 (ll.foldl (ft1 tb G3.2.1) (false, 0, 1, 0))) G1.1) hm hF hFn hFN y3 rfl
    have e1 : f_M_link_174 F m (mh m h σ4) = f_M_link_186 F m (mh m h σ5) := by
      unfold f_M_link_174
      rw [Mg13 hm, bs, y3, if_pos (show nI 0 = 0 from rfl), e_o hm, bs, c1, xb_mk]
    rw [e1]
    have hL : ∀ b, ex1 (ovT (svF B tO tb dr xs (sta tb dr on R) ll (slL T tb dr xs (sta tb dr on R)) NA G3.2.1 sp (tpN bg2 (ll.foldl (ft1 tb G3.2.1) (false, 0, 1, 0))) G1.1) tb (sta tb dr on R)) 0 T = b → lnE T tO tb dr xs od on rn B (sta tb dr on R) ll (slL T tb dr xs (sta tb dr on R)) th (if b = true then 4 else 0) := fun b hb => ⟨fe0, bg0, G0, fe1, mem1, bg1, G1, fe2, mem2, bg2, G4, G5, G2, sp, G3, CM, fe3, y1, by rw [eA, if_neg (show ¬ (false = true) by decide), ← eNA, hb]⟩
    cases eO : ex1 (ovT (svF B tO tb dr xs (sta tb dr on R) ll (slL T tb dr xs (sta tb dr on R)) NA G3.2.1 sp (tpN bg2 (ll.foldl (ft1 tb G3.2.1) (false, 0, 1, 0))) G1.1) tb (sta tb dr on R)) 0 T with
    | true =>
      obtain ⟨d1, d2⟩ := c2.2 eO
      have F5 : FR leI leJ [59, 75, 76, 77, 78, 91, 92, 93, 94, 95] lyB σ σ5 := FR_trans F4 (FR_mono d2 (by decide) (by decide) (by decide) (by decide))
      refine ⟨σ5, 4, sk_186 hm d1 (by decide) (by decide), d1, hL true eO, fun k => by rw [d2.2.2.1 3 (by decide)]; exact g3 k, ?_, fun k => by rw [d2.2.2.1 42 (by decide)]; exact g42 k, fun k => by rw [d2.2.2.1 91 (by decide)]; exact g91 k, fun _ => ⟨F5, (d2.1 43 (by decide)).trans (F4a.1 43 (by decide))⟩, fun q => absurd q (by decide), FR_mono F5 (by decide) (by decide) (by decide) (by decide)⟩
      obtain ⟨n, n1, n2⟩ := g4
      exact ⟨n, n1, (d2.1 4 (by decide)).trans n2⟩
    | false =>
      rw [c2.1 eO]
      have hsp : RSp σ4 (seg3 (upN fe0 16) (upN fe1 16) (upN fe2 16)) (seg3 bg0 bg1 bg2) := by
        intro s hs
        have : s = 0 ∨ s = 1 ∨ s = 2 := by omega
        rcases this with e | e | e
        · rw [e]; exact ⟨y7.1, y7.2.1⟩
        · rw [e]; exact ⟨y8.1, y8.2.1⟩
        · rw [e]; exact ⟨y9.1, y9.2.1⟩
      obtain ⟨σ6, w1, w2, w3, w4⟩ := q_write (F := F) (h := h) (σ := σ4) (fe := fe3) hm hF hFN hRo hkp hst ⟨⟨hFn, hsp, y3, g3⟩, y5, ⟨sgN th 3, sgN_le 3, y4⟩, ⟨_, y6⟩, y14, RC_FR hC F4a (by decide) (by decide)⟩ hfe y10
      have F6 : FR [4, 13, 15, 74, 82, 88, 89] lyJ [3, 59, 75, 76, 77, 78, 91, 92, 93, 94, 95] lyB σ σ6 := FR_trans (FR_mono F4a (by decide) (by decide) (by decide) (by decide)) (FR_mono w4 (by decide) (by decide) (by decide) (by decide))
      obtain ⟨σ7, k1, k2, k3, k4, k5⟩ := q_keepLink (F := F) (h := h) (σ := σ6) (fe := fe3) (rn := rn) hm hF hWP hod hoS (RWd_FR hR F6 (by decide) (by decide) (by decide)) (RO_FR hO F6 (by decide) (by decide)) (RRn_FR hn F6 (by decide) (by decide)) (RSt_FR hs F6 (by decide) (by decide)) hfe w2 (fun k => by rw [w4.2.2.1 42 (by decide)]; exact g42 k)
      have z6 : gI σ6 13 = nI 0 := (w4.1 13 (by decide)).trans y3
      have z7 : gI σ7 13 = nI 0 := (k5.1 13 (by decide)).trans z6
      refine ⟨σ7, 0, ?_, z7, hL false eO, fun k => by rw [k5.2.2.1 3 (by decide)]; exact w3 k, ⟨fe3, hfe, (k5.1 4 (by decide)).trans w2⟩, k3, fun k => by rw [k5.2.2.1 91 (by decide), w4.2.2.1 91 (by decide)]; exact g91 k, fun q => absurd rfl q, fun _ => ⟨⟨⟨fe3, hfe, k2⟩, k4, th, ((k5.1 15 (by decide)).trans (w4.1 15 (by decide))).trans y4, fun j hj => by rw [k5.2.2.1 59 (by decide), w4.2.2.1 59 (by decide)]; exact y5 j hj⟩, G3.2.1, NA, (fe0, bg0, G0, fe1, mem1, bg1, G1, fe2, mem2, bg2, G4, G5, G2, sp, G3, CM, fe3), ⟨fe0, bg0, G0, fe1, mem1, bg1, G1, fe2, mem2, bg2, G4, G5, G2, sp, G3, CM, fe3, y1, rfl, eNA, rfl⟩, fun P x hP => by rw [k5.2.2.2 57 (by decide), w4.2.2.2 57 (by decide)]; exact (y14 P x hP trivial).1, fun j hj => by rw [k5.2.2.2 29 (by decide), w4.2.2.2 29 (by decide)]; exact hNA j hj, hfe, k2, ((k5.1 15 (by decide)).trans (w4.1 15 (by decide))).trans y4, fun j hj => by rw [k5.2.2.1 59 (by decide), w4.2.2.1 59 (by decide)]; exact y5 j hj⟩, FR_trans (FR_mono F6 (by decide) (by decide) (by decide) (by decide)) (FR_mono k5 (by decide) (by decide) (by decide) (by decide))⟩
      unfold f_M_link_186
      rw [Mg13 hm, bs, y3, if_pos (show nI 0 = 0 from rfl), e_o hm, bs, w1, xb_mk]
      unfold f_M_link_197
      rw [Mg13 hm, bs, z6, if_pos (show nI 0 = 0 from rfl), e_o hm, bs, k1, xb_mk]
      unfold f_M_link_208
      rw [Mg13 hm, bs, z7]
end MLW
end
section
/-! link of the reference -/
/-- the names when all is taken -/
def xsN (s : px_TK) : px_NL := if s.1.1 = 0 then ownL s.1.2.1 else s.1.2.1
/-- the answer of a link -/
def lnR (fs : px_FS) (gs : List (List Nat × Int64)) (ws : List (List Nat)) (rc : Bool) (B : Nat → Nat) (s : px_TK) (a : Nat) : Prop := s = taL fs (xs0 gs ws) (od0 gs) ∧ (anN fs ws s (xsN s) ≠ 0 → a = anN fs ws s (xsN s)) ∧ (anN fs ws s (xsN s) = 0 → ∃ R rn, RRo s.2.2.1.length (tB fs s.2.2.1) s.2.1.1 (xsN s) rc R rn ∧ lnE s.2.2.1.length (tOf fs s.2.2.1) (tB fs s.2.2.1) s.2.1.1 (xsN s) s.1.2.2.1 rc rn B (sta (tB fs s.2.2.1) s.2.1.1 rc R) (layL s.2.2.1.length (tB fs s.2.2.1) (sta (tB fs s.2.2.1) s.2.1.1 rc R)) (slL s.2.2.1.length (tB fs s.2.2.1) s.2.1.1 (xsN s) (sta (tB fs s.2.2.1) s.2.1.1 rc R)) (thS (tB fs s.2.2.1) (layL s.2.2.1.length (tB fs s.2.2.1) (sta (tB fs s.2.2.1) s.2.1.1 rc R)) (xsN s) s.1.2.2.1 rc rn (slL s.2.2.1.length (tB fs s.2.2.1) s.2.1.1 (xsN s) (sta (tB fs s.2.2.1) s.2.1.1 rc R)).length) a)
/-- the segments that are there, the slots, the sections that stay, the layout -/
abbrev px_EE : Type := (Nat → Bool) × List Nat × (Nat → Nat → Bool) × px_VV
abbrev px_NA : Type := (Nat → Int64) × px_EE
/-- order and addresses of a link that was done -/
def lnX (fs : px_FS) (s : px_TK) (rc : Bool) (B : Nat → Nat) (ll : List Nat) (ad : Nat → Nat) (NA : px_NA) : Prop := ∃ R rn, RRo s.2.2.1.length (tB fs s.2.2.1) s.2.1.1 (xsN s) rc R rn ∧ ll = layL s.2.2.1.length (tB fs s.2.2.1) (sta (tB fs s.2.2.1) s.2.1.1 rc R) ∧ LKX (tOf fs s.2.2.1) (tB fs s.2.2.1) s.2.1.1 (xsN s) s.1.2.2.1 rc rn B (sta (tB fs s.2.2.1) s.2.1.1 rc R) ll (slL s.2.2.1.length (tB fs s.2.2.1) s.2.1.1 (xsN s) (sta (tB fs s.2.2.1) s.2.1.1 rc R)) (thS (tB fs s.2.2.1) ll (xsN s) s.1.2.2.1 rc rn (slL s.2.2.1.length (tB fs s.2.2.1) s.2.1.1 (xsN s) (sta (tB fs s.2.2.1) s.2.1.1 rc R)).length) ad NA.1 NA.2.2.2.2 ∧ NA.2.1 = thS (tB fs s.2.2.1) ll (xsN s) s.1.2.2.1 rc rn (slL s.2.2.1.length (tB fs s.2.2.1) s.2.1.1 (xsN s) (sta (tB fs s.2.2.1) s.2.1.1 rc R)).length ∧ NA.2.2.1 = slL s.2.2.1.length (tB fs s.2.2.1) s.2.1.1 (xsN s) (sta (tB fs s.2.2.1) s.2.1.1 rc R) ∧ NA.2.2.2.1 = sta (tB fs s.2.2.1) s.2.1.1 rc R
theorem lnX_mk {fs : px_FS} {s : px_TK} {rc : Bool} {B : Nat → Nat} {ll : List Nat} {ad : Nat → Nat} {NA : Nat → Int64} {th : Nat → Bool} {sl : List Nat} {sy : Nat → Nat → Bool} {V : px_VV} {R rn : Nat → Bool} (h1 : RRo s.2.2.1.length (tB fs s.2.2.1) s.2.1.1 (xsN s) rc R rn) (h2 : ll = layL s.2.2.1.length (tB fs s.2.2.1) (sta (tB fs s.2.2.1) s.2.1.1 rc R)) (h3 : LKX (tOf fs s.2.2.1) (tB fs s.2.2.1) s.2.1.1 (xsN s) s.1.2.2.1 rc rn B (sta (tB fs s.2.2.1) s.2.1.1 rc R) ll (slL s.2.2.1.length (tB fs s.2.2.1) s.2.1.1 (xsN s) (sta (tB fs s.2.2.1) s.2.1.1 rc R)) (thS (tB fs s.2.2.1) ll (xsN s) s.1.2.2.1 rc rn (slL s.2.2.1.length (tB fs s.2.2.1) s.2.1.1 (xsN s) (sta (tB fs s.2.2.1) s.2.1.1 rc R)).length) ad NA V) (h4 : th = thS (tB fs s.2.2.1) ll (xsN s) s.1.2.2.1 rc rn (slL s.2.2.1.length (tB fs s.2.2.1) s.2.1.1 (xsN s) (sta (tB fs s.2.2.1) s.2.1.1 rc R)).length) (h5 : sl = slL s.2.2.1.length (tB fs s.2.2.1) s.2.1.1 (xsN s) (sta (tB fs s.2.2.1) s.2.1.1 rc R)) (h6 : sy = sta (tB fs s.2.2.1) s.2.1.1 rc R) : lnX fs s rc B ll ad (NA, th, sl, sy, V) := ⟨R, rn, h1, h2, h3, h4, h5, h6⟩
/-- the reference has them so -/
def LKY (fs : px_FS) (s : px_TK) (rc : Bool) (B : Nat → Nat) (σ : px_S) : Prop := ∃ ll ad NA, lnX fs s rc B ll ad NA ∧ RLa σ (tQf s.2.2.1) (tB fs s.2.2.1) ll ∧ (∀ (P x : Nat), ll[P]? = some x → gB σ 57 P = lN (ad x)) ∧ (∀ j, j < (xsN s).length → gB σ 29 j = NA.1 j) ∧ LKZ σ (vFe NA.2.2.2.2) NA.2.1
theorem LKY_mk {fs : px_FS} {s : px_TK} {rc : Bool} {B : Nat → Nat} {σ : px_S} {ll : List Nat} {ad : Nat → Nat} {NA : Nat → Int64} {th : Nat → Bool} {sl : List Nat} {sy : Nat → Nat → Bool} {V : px_VV} (h : lnX fs s rc B ll ad (NA, th, sl, sy, V)) (h1 : RLa σ (tQf s.2.2.1) (tB fs s.2.2.1) ll) (h2 : ∀ (P x : Nat), ll[P]? = some x → gB σ 57 P = lN (ad x)) (h3 : ∀ j, j < (xsN s).length → gB σ 29 j = NA j) (h4 : LKZ σ (vFe V) th) : LKY fs s rc B σ := ⟨ll, ad, (NA, th, sl, sy, V), h, h1, h2, h3, h4⟩
/-- what holds of the reference between calls, besides files and names told -/
def LNV (σ : px_S) : Prop := (∀ k, isB (gA σ 3 k)) ∧ (∃ n, n ≤ 65536 ∧ gI σ 4 = nI n) ∧ (∀ k, isB (gA σ 42 k)) ∧ (∀ k, isB (gA σ 91 k)) ∧ (∃ ch, gI σ 98 = bI ch) ∧ RC σ
/-- what a link leaves -/
def LNP (fs : px_FS) (s : px_TK) (σ : px_S) : Prop := LM fs s (xsN s) σ ∧ WK fs s ∧ WP s.2.2.1.length (tB fs s.2.2.1) s.2.1.1 (xsN s) ∧ AL cmP (xsN s) ∧ ((∀ d, d ∈ s.1.2.2.1 → d < (xsN s).length) ∧ ∀ d, d ∈ s.1.2.2.1 → stN (xsN s) d = 1 ∨ stN (xsN s) d = 2 ∨ stN (xsN s) d = 3) ∧ ∃ (on : Bool) (R rn : Nat → Bool), RSt σ on R ∧ RRn σ (xsN s) on rn ∧ RLa σ (tQf s.2.2.1) (tB fs s.2.2.1) (layL s.2.2.1.length (tB fs s.2.2.1) (sta (tB fs s.2.2.1) s.2.1.1 on R)) ∧ LYo s.2.2.1.length (tB fs s.2.2.1) (layL s.2.2.1.length (tB fs s.2.2.1) (sta (tB fs s.2.2.1) s.2.1.1 on R))
abbrev lnI : List Nat := [0, 4, 13, 14, 15, 20, 43, 48, 50, 68, 69, 70, 74, 82, 88, 89, 98]
abbrev lnJ : List Nat := [16, 64, 79, 80, 81, 83, 84, 85, 86, 87, 90]
abbrev lnA : List Nat := [3, 17, 18, 19, 21, 22, 23, 24, 25, 26, 27, 28, 38, 39, 40, 42, 49, 51, 52, 53, 54, 55, 56, 59, 65, 66, 67, 71, 72, 73, 75, 76, 77, 78, 91, 92, 93, 94, 95]
abbrev lnB : List Nat := [29, 30, 41, 57, 58, 60, 61, 62, 63]
theorem xsN_fst {s : px_TK} : (xsN s).map Prod.fst = s.1.2.1.map Prod.fst := by
  unfold xsN
  split
  · exact ownL_fst
  · rfl
theorem anN_st {fs : px_FS} {ws : List (List Nat)} {s : px_TK} {xs : px_NL} (c : anN fs ws s xs = 0) : (dfI wST xs).isSome = true := by
  unfold anN at c
  by_cases c1 : s.1.1 = 0
  · rw [if_pos c1] at c
    by_cases c2 : lkA fs ws s xs = true
    · rw [if_pos c2] at c; cases c
    · have c2 := Bool.eq_false_iff.mpr c2
      unfold lkA at c2
      rw [Bool.or_eq_false_iff, Bool.or_eq_false_iff] at c2
      have := c2.2.2
      cases e : dfI wST xs with
      | none => rw [e] at this; cases this
      | some i => rfl
  · rw [if_neg c1] at c; exact absurd c c1
section MLX
variable {F m : Nat} {h : px_H} {fs : px_FS} {gs : List (List Nat × Int64)} {ws : List (List Nat)} {B : Nat → Nat} {rc : Bool}
theorem q_link {σ : px_S} (hm : m ≤ h.length) (hF : 65540 < F) (hr : RF σ fs) (hg : RG σ gs) (hw : RW σ ws) (hv : LNV σ) (hB : RB σ B) (hsum : (fs.map Prod.fst).sum ≤ 4096) : ∃ (σ' : px_S) (a : Nat) (s : px_TK), f_M_link F m (bI rc) (mh m h σ) = some (nI a, mh m h σ') ∧ lnR fs gs ws rc B s a ∧ gI σ' 13 = nI a ∧ LNP fs s σ' ∧ LNV σ' ∧ RF σ' fs ∧ RG σ' gs ∧ RW σ' ws ∧ FR lnI lnJ lnA lnB σ σ' ∧ (a = 0 → LKD σ' s.1.2.2.1 ∧ LKY fs s rc B σ') ∧ (rc = false → gI σ' 68 = bI false) := by
  obtain ⟨v3, v4, v42, v91, v98, vC⟩ := hv
  have hfo := RF_FSo hr
  have hgl : gs.length ≤ 16 := by have := hg.2.1.1; rw [List.length_map] at this; exact this
  have hwl : ws.length ≤ 16 := hw.2.1
  obtain ⟨hS, hSw⟩ := ST0_xs hgl hwl
  have hWK := WK_0 hfo hS
  have hcm0 := cmP_0 hfo hS
  have hod0 := odS_0 hfo hS
  have htx : ∀ w, w ∈ ws → w ∈ (taL fs (xs0 gs ws) (od0 gs)).1.2.1.map Prod.fst := fun w hq => txs_0 hfo (hSw w hq)
  obtain ⟨s, es⟩ : ∃ s, s = taL fs (xs0 gs ws) (od0 gs) := ⟨_, rfl⟩
  rw [← es] at hWK hcm0 hod0 htx
  have hWP : WP s.2.2.1.length (tB fs s.2.2.1) s.2.1.1 (xsN s) := by
    unfold xsN
    split
    · exact WP_own (WP_of hWK)
    · exact WP_of hWK
  have hcm : AL cmP (xsN s) := by
    unfold xsN
    split
    · exact AL_own (P := cmP) cmP_own hcm0
    · exact hcm0
  have hlen : (xsN s).length = s.1.2.1.length := by
    have := congrArg List.length (xsN_fst (s := s))
    rw [List.length_map, List.length_map] at this
    exact this
  have hod : ∀ d, d ∈ s.1.2.2.1 → d < (xsN s).length := fun d hd => by rw [hlen]; exact hWK.2.2.2.2 d hd
  have hoS : ∀ d, d ∈ s.1.2.2.1 → stN (xsN s) d = 1 ∨ stN (xsN s) d = 2 ∨ stN (xsN s) d = 3 := fun d hd => by
    have h1 := hod0 d hd
    unfold xsN
    split
    · rw [stN_own (by omega)]; exact h1
    · exact h1
  have hSL := SLN_of hfo hWK.1 hsum
  -- the start
  obtain ⟨σ1, a1, a2, a3, a4⟩ := q_ln_0 (F := F) (h := h) (a := bI rc) (σ := σ) hm (by omega)
  obtain ⟨σ2, b1, b2, b3, b4, b5, b6, b7⟩ := q_ln_92 (F := F) (h := h) (a := bI rc) (σ := σ1) (s := s) hm (by omega) a2 a3 (RF_FR hr a4 (by decide) (by decide)) (RG_FR hg a4 (by decide) (by decide) (by decide)) (RW_FR hw a4 (by decide) (by decide)) (RC_FR vC a4 (by decide) (by decide)) (fun k => by rw [a4.2.2.1 3 (by decide)]; exact v3 k) (by
    obtain ⟨n, n1, n2⟩ := v4
    exact ⟨n, n1, (a4.1 4 (by decide)).trans n2⟩) es
  have F2 : FR lnI lnJ lnA lnB σ σ2 := FR_trans (FR_mono a4 (by decide) (by decide) (by decide) (by decide)) (FR_mono b7 (by decide) (by decide) (by decide) (by decide))
  have b3 : LM fs s (xsN s) σ2 := b3
  obtain ⟨σ3, c1, c2, c3, c4, c5, c6⟩ := q_ln_111 (F := F) (h := h) (a := bI rc) (σ := σ2) (ws := ws) hm (by omega) b2 b3 hWK (fun e => by unfold xsN; rw [if_pos e]) (RW_FR hw F2 (by decide) (by decide)) htx (RC_FR vC F2 (by decide) (by decide)) b5 b6
  have F3 : FR lnI lnJ lnA lnB σ σ3 := FR_trans F2 (FR_mono c6 (by decide) (by decide) (by decide) (by decide))
  obtain ⟨on, hon⟩ : ∃ on, on = (decide (anN fs ws s (xsN s) = 0) && rc) := ⟨_, rfl⟩
  obtain ⟨σ4, R, rn, d1, d2, d3, d4, d5, d6⟩ := q_ln_122 (F := F) (h := h) (σ := σ3) (ws := ws) (rc := rc) hm (by omega) c2 c3 hWK hWP (RC_FR vC F3 (by decide) (by decide)) (by
    obtain ⟨ch, hc⟩ := v98
    exact ⟨ch, by rw [c6.1 98 (by decide), b7.1 98 (by decide), a4.1 98 (by decide)]; exact hc⟩) (by rw [c6.1 68 (by decide), b7.1 68 (by decide)]; exact a2.2.2.2.2.2.2.2.1) hon
  have F4 : FR lnI lnJ lnA lnB σ σ4 := FR_trans F3 (FR_mono d6 (by decide) (by decide) (by decide) (by decide))
  have hL4 := LM_FR c3 d6 (by decide) (by decide) (by decide)
  have h134 : gI σ4 13 = nI (anN fs ws s (xsN s)) := (d6.1 13 (by decide)).trans c2
  obtain ⟨l1, l2, l3, l4, l5, l6, l7, l8, l9⟩ := hL4
  have hOB := OB_of l2 hWK.1 l7
  obtain ⟨σ5, e1, e2, e3, e4⟩ := q_lay (F := F) (h := h) (σ := σ4) (tq := tQf s.2.2.1) (on := on) (R := R) hm (by omega) hWP.1 ⟨hOB, l5, d2, RQ_of l2 hWK.1 l7, l1⟩
  have F5 : FR lnI lnJ lnA lnB σ σ5 := FR_trans F4 (FR_mono e4 (by decide) (by decide) (by decide) (by decide))
  obtain ⟨hLY, hkp⟩ := LYo_lay (tn := tNf fs s.2.2.1) hWP.1 (fun t ht => (hOB t ht).2.2.2.1) e3
  have hL5 := LM_FR ⟨l1, l2, l3, l4, l5, l6, l7, l8, l9⟩ e4 (by decide) (by decide) (by decide)
  have hs5 := RSt_FR d2 e4 (by decide) (by decide)
  have hn5 := RRn_FR d3 e4 (by decide) (by decide)
  have h135 : gI σ5 13 = nI (anN fs ws s (xsN s)) := (e4.1 13 (by decide)).trans h134
  have hs2 := hWK.1.1
  have ha : anN fs ws s (xsN s) ≤ 2 := by unfold anN; repeat (first | omega | split)
  have eT : f_M_link F m (bI rc) (mh m h σ) = f_M_link_137 F m (mh m h σ4) := by rw [a1, b1, c1, d1]
  rw [eT]
  unfold f_M_link_137
  rw [e_o hm, bs, e1, xb_mk, Mg13 hm, bs, h135]
  by_cases c : anN fs ws s (xsN s) = 0
  · have eon : on = rc := by rw [hon, decide_eq_true c, Bool.true_and]
    subst eon
    rw [if_pos (by rw [c]; rfl)]
    obtain ⟨σ6, a, g1, g2, g3, g4, g5, g6, g7, g8, g9, g10⟩ := q_ln_E (F := F) (h := h) (σ := σ5) (tO := tOf fs s.2.2.1) (tn := tNf fs s.2.2.1) (tq := tQf s.2.2.1) (B := B) (od := s.1.2.2.1) (rn := rn) (R := R) hm hF rfl rfl rfl hWP hLY hkp hSL hcm hod hoS (anN_st c) (by rw [h135, c]) hL5.1 (by rw [e4.1 74 (by decide), d6.1 74 (by decide), c6.1 74 (by decide), b7.1 74 (by decide)]; exact a2.2.2.2.2.2.2.1) ⟨OB_of hL5.2.1 hWK.1 hL5.2.2.2.2.2.2.1, hL5.2.2.2.2.1, hL5.2.2.1⟩ hL5.2.2.2.1 hs5 hn5 e2 (RB_FR hB F5 (by decide)) (RC_FR vC F5 (by decide) (by decide)) (fun k => by rw [e4.2.2.1 3 (by decide), d6.2.2.1 3 (by decide)]; exact c4 k) (by
      obtain ⟨n, n1, n2⟩ := c5
      exact ⟨n, n1, by rw [e4.1 4 (by decide), d6.1 4 (by decide)]; exact n2⟩) (fun k => by rw [e4.2.2.1 42 (by decide), d6.2.2.1 42 (by decide), c6.2.2.1 42 (by decide), b7.2.2.1 42 (by decide), a4.2.2.1 42 (by decide)]; exact v42 k) (fun k => by rw [e4.2.2.1 91 (by decide), d6.2.2.1 91 (by decide), c6.2.2.1 91 (by decide), b7.2.2.1 91 (by decide), a4.2.2.1 91 (by decide)]; exact v91 k)
    have F6 : FR lnI lnJ lnA lnB σ σ6 := FR_trans F5 (FR_mono g10 (by decide) (by decide) (by decide) (by decide))
    have hL6 := LM_FR hL5 g10 (by decide) (by decide) (by decide)
    have e26 : RLa σ6 (tQf s.2.2.1) (tB fs s.2.2.1) (layL s.2.2.1.length (tB fs s.2.2.1) (sta (tB fs s.2.2.1) s.2.1.1 on R)) := RLa_FR e2 g10 (by decide) (by decide)
    refine ⟨σ6, a, s, g1, ⟨es, fun q => absurd c q, fun _ => ⟨R, rn, d4, g3⟩⟩, g2, ⟨hL6, hWK, hWP, hcm, ⟨hod, hoS⟩, on, R, rn, RSt_FR hs5 g10 (by decide) (by decide), RRn_FR hn5 g10 (by decide) (by decide), e26, hLY⟩, ⟨g4, g5, g6, g7, ?_, RC_FR vC F6 (by decide) (by decide)⟩, hL6.2.1, RG_FR hg F6 (by decide) (by decide) (by decide), RW_FR hw F6 (by decide) (by decide), F6, fun q => ⟨(g9 q).1, ?_⟩, fun q => ?_⟩
    · obtain ⟨ch, hc⟩ := d5
      exact ⟨ch, by rw [g10.1 98 (by decide), e4.1 98 (by decide)]; exact hc⟩
    · obtain ⟨_, ad, NA, V, x1, x2, x3, x4⟩ := g9 q
      exact LKY_mk (lnX_mk d4 rfl x1 rfl rfl rfl) e26 x2 x3 x4
    · have w := (RSt_FR hs5 g10 (by decide) (by decide)).1
      rw [q] at w
      exact w
  · rw [if_neg (show ¬ nI (anN fs ws s (xsN s)) = 0 from fun q => c ((nI_eq (b := 0) (by omega) (by decide)).mp q)), sk_152 hm h135 c (by omega)]
    refine ⟨σ5, anN fs ws s (xsN s), s, rfl, ⟨es, fun _ => rfl, fun q => absurd q c⟩, h135, ⟨hL5, hWK, hWP, hcm, ⟨hod, hoS⟩, on, R, rn, hs5, hn5, e2, hLY⟩, ⟨?_, ?_, ?_, ?_, ?_, RC_FR vC F5 (by decide) (by decide)⟩, hL5.2.1, RG_FR hg F5 (by decide) (by decide) (by decide), RW_FR hw F5 (by decide) (by decide), F5, fun q => absurd q c, fun q => ?_⟩
    · intro k; rw [e4.2.2.1 3 (by decide), d6.2.2.1 3 (by decide)]; exact c4 k
    · obtain ⟨n, n1, n2⟩ := c5
      exact ⟨n, n1, by rw [e4.1 4 (by decide), d6.1 4 (by decide)]; exact n2⟩
    · intro k; rw [e4.2.2.1 42 (by decide), d6.2.2.1 42 (by decide), c6.2.2.1 42 (by decide), b7.2.2.1 42 (by decide), a4.2.2.1 42 (by decide)]; exact v42 k
    · intro k; rw [e4.2.2.1 91 (by decide), d6.2.2.1 91 (by decide), c6.2.2.1 91 (by decide), b7.2.2.1 91 (by decide), a4.2.2.1 91 (by decide)]; exact v91 k
    · obtain ⟨ch, hc⟩ := d5
      exact ⟨ch, by rw [e4.1 98 (by decide)]; exact hc⟩
    · have w := hs5.1
      rw [hon, q, Bool.and_false] at w
      exact w
end MLX
end
section
/-! order and addresses of a link: there is but one -/
theorem LYe_u {B tO : Nat → Nat} {tb : Nat → Nat → Nat} {ll : List Nat} {xs : px_NL} {od : List Nat} {ns : Nat} {on : Bool} {rn th : Nat → Bool} {fe0 bg0 : Nat} {G0 : px_PG} {fe1 mem1 bg1 : Nat} {G1 : px_PG} {fe2 mem2 bg2 : Nat} {G4 G5 G2 : px_PG} {sp : Nat} {G3 CM : px_PG} {fe3 : Nat} {fe0' bg0' : Nat} {G0' : px_PG} {fe1' mem1' bg1' : Nat} {G1' : px_PG} {fe2' mem2' bg2' : Nat} {G4' G5' G2' : px_PG} {sp' : Nat} {G3' CM' : px_PG} {fe3' : Nat} (h : LYe B tO tb ll xs od ns on rn th fe0 bg0 G0 fe1 mem1 bg1 G1 fe2 mem2 bg2 G4 G5 G2 sp G3 CM fe3) (h' : LYe B tO tb ll xs od ns on rn th fe0' bg0' G0' fe1' mem1' bg1' G1' fe2' mem2' bg2' G4' G5' G2' sp' G3' CM' fe3') : G0 = G0' ∧ G1 = G1' ∧ bg2 = bg2' ∧ sp = sp' ∧ G3 = G3' ∧ CM = CM' ∧ (fe0, bg0, G0, fe1, mem1, bg1, G1, fe2, mem2, bg2, G4, G5, G2, sp, G3, CM, fe3) = (fe0', bg0', G0', fe1', mem1', bg1', G1', fe2', mem2', bg2', G4', G5', G2', sp', G3', CM', fe3') := by
  obtain ⟨a1, a2, a3, a4, a5, a6, a7, a8, a9, a10, a11, a12, a13, a14, a15, a16, a17⟩ := h
  obtain ⟨b1, b2, b3, b4, b5, b6, b7, b8, b9, b10, b11, b12, b13, b14, b15, b16, b17⟩ := h'
  have c1 : fe0 = fe0' := a1.trans b1.symm
  have c2 : bg0 = bg0' := by rw [a2, b2, c1]
  have c3 : G0 = G0' := by rw [a3, b3, c2]
  have c4 : fe1 = fe1' := by rw [a4, b4, c1, c2, c3]
  have c5 : mem1 = mem1' := by rw [a5, b5, c2, c3]
  have c6 : bg1 = bg1' := by rw [a6, b6, c5, c4]
  have c7 : G1 = G1' := by rw [a7, b7, c6, c3]
  have c8 : fe2 = fe2' := by rw [a8, b8, c4, c7, c6]
  have c9 : mem2 = mem2' := by rw [a9, b9, c6, c7, c5]
  have c10 : bg2 = bg2' := by rw [a10, b10, c9, c8]
  have c11 : G4 = G4' := by rw [a11, b11, c10, c7]
  have c12 : G5 = G5' := by rw [a12, b12, c11]
  have c13 : G2 = G2' := by rw [a13, b13, c11, c12]
  have c14 : sp = sp' := by rw [a14, b14, c13]
  have c15 : G3 = G3' := by rw [a15, b15, c14, c13]
  have c16 : CM = CM' := by rw [a16, b16, c15]
  have c17 : fe3 = fe3' := by rw [a17, b17, c8, c14, c10]
  refine ⟨c3, c7, c10, c14, c15, c16, ?_⟩
  clear a1 a2 a3 a4 a5 a6 a7 a8 a9 a10 a11 a12 a13 a14 a15 a16 a17 b1 b2 b3 b4 b5 b6 b7 b8 b9 b10 b11 b12 b13 b14 b15 b16 b17
  subst c1 c2 c3 c4 c5 c6 c7 c8 c9 c10 c11 c12 c13 c14 c15 c16 c17
  rfl
theorem LKX_u {tO : Nat → Nat} {tb : Nat → Nat → Nat} {dr : Nat → Bool} {xs : px_NL} {od : List Nat} {on : Bool} {rn : Nat → Bool} {B : Nat → Nat} {sy : Nat → Nat → Bool} {ll sl : List Nat} {th : Nat → Bool} {ad ad' : Nat → Nat} {NA NA' : Nat → Int64} {V V' : px_VV} (h : LKX tO tb dr xs od on rn B sy ll sl th ad NA V) (h' : LKX tO tb dr xs od on rn B sy ll sl th ad' NA' V') : ad = ad' ∧ NA = NA' ∧ V = V' := by
  obtain ⟨fe0, bg0, G0, fe1, mem1, bg1, G1, fe2, mem2, bg2, G4, G5, G2, sp, G3, CM, fe3, y1, y2, y3, y4⟩ := h
  obtain ⟨fe0', bg0', G0', fe1', mem1', bg1', G1', fe2', mem2', bg2', G4', G5', G2', sp', G3', CM', fe3', y1', y2', y3', y4'⟩ := h'
  obtain ⟨c1, c2, c3, c4, c5, c6, c7⟩ := LYe_u y1 y1'
  exact ⟨by rw [y2, y2', c5], by rw [y3, y3', c1, c2, c3, c4, c5, c6], y4.trans (c7.trans y4'.symm)⟩
theorem sta_u {tb : Nat → Nat → Nat} {dr R R' : Nat → Bool} : sta tb dr false R = sta tb dr false R' := rfl
theorem cB_u {xs : px_NL} {rn rn' : Nat → Bool} : cB xs false rn = cB xs false rn' := rfl
theorem thc_u {xs : px_NL} {rn rn' : Nat → Bool} : thc xs false rn = thc xs false rn' := rfl
theorem pc1_u {xs : px_NL} {rn rn' : Nat → Bool} : pc1 xs false rn = pc1 xs false rn' := by
  funext th s n
  unfold pc1
  rw [cB_u (rn := rn) (rn' := rn')]
theorem thS_u {tb : Nat → Nat → Nat} {ll : List Nat} {xs : px_NL} {od : List Nat} {rn rn' : Nat → Bool} : thS tb ll xs od false rn = thS tb ll xs od false rn' := by
  funext ns s
  unfold thS
  rw [thc_u (rn := rn) (rn' := rn')]
theorem LKX_c {tO : Nat → Nat} {tb : Nat → Nat → Nat} {dr : Nat → Bool} {xs : px_NL} {od : List Nat} {rn rn' : Nat → Bool} {B : Nat → Nat} {sy : Nat → Nat → Bool} {ll sl : List Nat} {th : Nat → Bool} {ad : Nat → Nat} {NA : Nat → Int64} {V : px_VV} (h : LKX tO tb dr xs od false rn B sy ll sl th ad NA V) : LKX tO tb dr xs od false rn' B sy ll sl th ad NA V := by
  obtain ⟨fe0, bg0, G0, fe1, mem1, bg1, G1, fe2, mem2, bg2, G4, G5, G2, sp, G3, CM, fe3, y1, y2, y3, y4⟩ := h
  obtain ⟨a1, a2, a3, a4, a5, a6, a7, a8, a9, a10, a11, a12, a13, a14, a15, a16, a17⟩ := y1
  rw [pc1_u (rn := rn) (rn' := rn')] at a16
  exact ⟨fe0, bg0, G0, fe1, mem1, bg1, G1, fe2, mem2, bg2, G4, G5, G2, sp, G3, CM, fe3, ⟨a1, a2, a3, a4, a5, a6, a7, a8, a9, a10, a11, a12, a13, a14, a15, a16, a17⟩, y2, y3, y4⟩
theorem lnX_u {fs : px_FS} {s : px_TK} {rc : Bool} {B : Nat → Nat} {ll ll' : List Nat} {ad ad' : Nat → Nat} {NA NA' : px_NA} (h : lnX fs s rc B ll ad NA) (h' : lnX fs s rc B ll' ad' NA') : ll = ll' ∧ ad = ad' ∧ NA = NA' := by
  obtain ⟨R, rn, r1, e1, k1, o1, o2, o3⟩ := h
  obtain ⟨R', rn', r1', e1', k1', o1', o2', o3'⟩ := h'
  cases rc with
  | true =>
    have eR : R = R' := by
      funext x
      have u1 := (r1 rfl).1 x
      have u2 := (r1' rfl).1 x
      cases q1 : R x with
      | true => exact (u2.mpr (u1.mp q1)).symm
      | false =>
        cases q2 : R' x with
        | false => rfl
        | true => rw [u1.mpr (u2.mp q2)] at q1; cases q1
    have en : rn = rn' := by
      funext x
      have u1 := (r1 rfl).2 x
      have u2 := (r1' rfl).2 x
      cases q1 : rn x with
      | true => exact (u2.mpr (u1.mp q1)).symm
      | false =>
        cases q2 : rn' x with
        | false => rfl
        | true => rw [u1.mpr (u2.mp q2)] at q1; cases q1
    subst eR
    subst en
    have el : ll = ll' := e1.trans e1'.symm
    subst el
    obtain ⟨w1, w2, w3⟩ := LKX_u k1 k1'
    exact ⟨rfl, w1, Prod.ext w2 (Prod.ext (o1.trans o1'.symm) (Prod.ext (o2.trans o2'.symm) (Prod.ext (o3.trans o3'.symm) w3)))⟩
  | false =>
    rw [sta_u (R := R) (R' := R')] at e1 k1 o1 o2 o3
    have el : ll = ll' := e1.trans e1'.symm
    subst el
    rw [thS_u (rn := rn) (rn' := rn')] at k1 o1
    obtain ⟨w1, w2, w3⟩ := LKX_u (LKX_c (rn' := rn') k1) k1'
    exact ⟨rfl, w1, Prod.ext w2 (Prod.ext (o1.trans o1'.symm) (Prod.ext (o2.trans o2'.symm) (Prod.ext (o3.trans o3'.symm) w3)))⟩
theorem lnR_le {fs : px_FS} {gs : List (List Nat × Int64)} {ws : List (List Nat)} {rc : Bool} {B : Nat → Nat} {s : px_TK} {k : Nat} (hl : lnR fs gs ws rc B s k) (hs : s.1.1 ≤ 2) : k ≤ 4 := by
  have ha : anN fs ws s (xsN s) ≤ 2 := by unfold anN; repeat (first | omega | split)
  by_cases c : anN fs ws s (xsN s) = 0
  · obtain ⟨R, rn, _, fe0, bg0, G0, fe1, mem1, bg1, G1, fe2, mem2, bg2, G4, G5, G2, sp, G3, CM, fe3, _, e⟩ := hl.2.2 c
    rw [e]
    split
    · omega
    · split <;> omega
  · have := hl.2.1 c
    omega
/-- what a name is: 1 to 20 bytes, none of them 0 -/
def nT (w : List Nat) : Prop := 1 ≤ w.length ∧ w.length ≤ 20 ∧ ∀ x, x ∈ w → x ≠ 0
theorem nzf_i {b : Nat → Nat} : ∀ (d k : Nat), nzf b k d = true ↔ ∀ i, i < d → b (k + i) ≠ 0 := by
  intro d
  induction d with
  | zero => intro k; exact ⟨fun _ i h => absurd h (Nat.not_lt_zero i), fun _ => rfl⟩
  | succ d ih =>
    intro k
    unfold nzf
    rw [Bool.and_eq_true, ih (k + 1), decide_eq_true_eq]
    constructor
    · intro h i hi
      cases i with
      | zero => exact h.1
      | succ i =>
        have := h.2 i (by omega)
        rw [show k + (i + 1) = k + 1 + i by omega]
        exact this
    · intro h
      refine ⟨h 0 (by omega), fun i hi => ?_⟩
      rw [show k + 1 + i = k + (i + 1) by omega]
      exact h (i + 1) (by omega)
theorem tk_mem {b : Nat → Nat} {p k x : Nat} (h : x ∈ tk b p k) : ∃ j, j < k ∧ x = b (p + j) := by
  obtain ⟨j, hj⟩ := List.mem_iff_getElem?.mp h
  have hl := (List.getElem?_eq_some_iff.mp hj).1
  rw [tk_len] at hl
  rw [tk_get b p k j hl] at hj
  exact ⟨j, hl, (Option.some.inj hj).symm⟩
theorem nT_tnm {b : Nat → Nat} {n : Nat} : tnm b n = true ↔ nT (tk b 0 n) := by
  constructor
  · intro h
    obtain ⟨h1, h2, h3⟩ := tnm_n h
    refine ⟨by rw [tk_len]; exact h1, by rw [tk_len]; exact h2, fun x hx => ?_⟩
    obtain ⟨j, hj, rfl⟩ := tk_mem hx
    exact (nzf_i n 0).mp h3 j hj
  · rintro ⟨h1, h2, h3⟩
    rw [tk_len] at h1 h2
    unfold tnm
    rw [decide_eq_true h1, decide_eq_true h2, Bool.true_and, Bool.true_and]
    refine (nzf_i n 0).mpr (fun i hi => h3 _ ?_)
    exact List.mem_of_getElem? (tk_get b 0 n i hi)
theorem nT_yT {b : Nat → Nat} {k : Nat} (h : yG b k = true) : nT (yT b k) := by
  obtain ⟨h1, h2, _⟩ := yG_n h
  unfold yT
  refine ⟨by rw [tk_len]; exact h1, by rw [tk_len]; exact h2, fun x hx => ?_⟩
  obtain ⟨j, hj, rfl⟩ := tk_mem hx
  exact run_nz hj
theorem nT_tlG : ∀ (l : List (List Nat × Int64)) (s : px_NL × List Nat), (∀ w, w ∈ l.map Prod.fst → nT w) → (∀ w, w ∈ s.1.map Prod.fst → nT w) → ∀ w, w ∈ (tlG l s).1.map Prod.fst → nT w
  | [], _, _, h => h
  | g :: l, s, hl, h => by
    unfold tlG
    refine nT_tlG l _ (fun w hw => hl w (List.mem_cons_of_mem _ hw)) (fun w hw => ?_)
    rw [setR_fst, entL_fst] at hw
    rcases ent_mem.mp hw with e | e
    · rw [e]; exact hl _ (List.mem_cons_self ..)
    · exact h w e
theorem nT_tlW : ∀ (l : List (List Nat)) (xs : px_NL), (∀ w, w ∈ l → nT w) → (∀ w, w ∈ xs.map Prod.fst → nT w) → ∀ w, w ∈ (tlW l xs).map Prod.fst → nT w
  | [], _, _, h => h
  | v :: l, xs, hl, h => by
    unfold tlW
    refine nT_tlW l _ (fun w hw => hl w (List.mem_cons_of_mem _ hw)) (fun w hw => ?_)
    rw [setR_fst, entL_fst] at hw
    rcases ent_mem.mp hw with e | e
    · rw [e]; exact hl _ (List.mem_cons_self ..)
    · exact h w e
theorem nT_taL {fs : px_FS} {gs : List (List Nat × Int64)} {ws : List (List Nat)} (hf : FSo fs) (hg : ∀ w, w ∈ gs.map Prod.fst → nT w) (hw : ∀ w, w ∈ ws → nT w) : ∀ w, w ∈ (taL fs (xs0 gs ws) (od0 gs)).1.2.1.map Prod.fst → nT w := by
  refine TK_inv (P := fun s : px_TS => ∀ w, w ∈ txs s → nT w) (fun dr t b k s hy h w hw' => ?_) hf ?_
  · rw [tk1_fst] at hw'
    by_cases hB : yB b k = 0
    · rw [if_pos hB] at hw'; exact h w hw'
    · rw [if_neg hB] at hw'
      rcases ent_mem.mp hw' with e | e
      · rw [e]; exact nT_yT (yOK_n hy hB).2.1
      · exact h w e
  · exact nT_tlW ws _ hw (nT_tlG gs ([], []) hg (fun w h => by cases h))
end
section
/-! a name is entered in the class: there or new -/
def pN (τ : px_TT) (A i : Nat) : Nat := (eN τ A i).getD 0
/-- cells that stand before any name, or hold another name than the one at A, j -/
def oth2 (A j : Nat) (τ : px_TT) (a : Nat) : Prop := a < 1815 ∨ ∃ B i, (B = 141 ∨ B = 144 ∨ B = 149) ∧ eN τ B i = some a ∧ ¬ (B = A ∧ i = j)
def frEn (N A j : Nat) (τ τ' : px_TT) : Prop := (∀ a k, oth2 A j τ a → (a ≠ N ∨ k ≠ 2) → fI τ' a k = fI τ a k) ∧ (∀ a k, oth2 A j τ a → fJ τ' a k = fJ τ a k) ∧ (∀ a k, oth2 A j τ a → fN τ' a k = fN τ a k) ∧ (∀ a, eI τ' a = eI τ a) ∧ (∀ a, eJ τ' a = eJ τ a) ∧ (∀ a, a ≠ A → eN τ' a = eN τ a) ∧ (∀ i, i ≠ j → eN τ' A i = eN τ A i)
theorem frEn_refl {N A j : Nat} {τ : px_TT} : frEn N A j τ τ := ⟨fun _ _ _ _ => rfl, fun _ _ _ => rfl, fun _ _ _ => rfl, fun _ => rfl, fun _ => rfl, fun _ _ => rfl, fun _ _ => rfl⟩
section ENG
variable {F : Nat} {c : px_CT} {sk : Nat → Nat × Nat × Nat} {L : Nat} {τ : px_TT} {t : Nat} {w : List Nat}
theorem k_enterG {N A m k : Nat} {ws : List (List Nat)} {own : Nat → Nat × Nat} (hS : GS sk L) (hns : isNs sk L τ N A m ws (pN τ A)) (hnp : NP sk L τ own) (hA : A = 141 ∨ A = 144 ∨ A = 149) (hNl : N < 1726) (ht : ob sk L 5 t) (hto : oth2 A ws.length τ t) (hw : isNm τ t w) (hok : okN w) (hl : ws.length < m) (hF : ws.length < F) (hr : RMk sk L (k + 1)) : ∃ sk' L' τ' own', f_Names_enter F c N (some t) (cH sk L τ) = some (some (pN τ' A (plc w ws)), cH sk' L' τ') ∧ EX sk L sk' L' ∧ RMk sk' L' k ∧ NP sk' L' τ' own' ∧ isNs sk' L' τ' N A m (ent w ws) (pN τ' A) ∧ (idx w 0 ws = none → blk τ' (pN τ' A ws.length)) ∧ (idx w 0 ws ≠ none → τ' = τ) ∧ frEn N A ws.length τ τ' := by
  obtain ⟨s1, s2, s3, s4, s5, s6, s7⟩ := id hns
  have hL := hS.1
  cases hi : idx w 0 ws with
  | some i =>
    refine ⟨sk, L, τ, own, ?_, EX_refl, ⟨by have := hr.1; omega, by have := hr.2; omega⟩, hnp, ?_, fun q => absurd q (fun e => by cases e), fun _ => rfl, frEn_refl⟩
    · unfold f_Names_enter
      rw [c_o s1, bs, k_find hns ht hw hok hF, xb_mk, hi]
      have e : plc w ws = i := by unfold plc; rw [hi]; rfl
      rw [e]
      rfl
    · unfold ent
      rw [if_pos (by rw [hi]; rfl)]
      exact hns
  | none =>
    have hent : ent w ws = ws ++ [w] := by unfold ent; rw [if_neg (by rw [hi]; decide)]
    have hplc : plc w ws = ws.length := by unfold plc; rw [hi]; rfl
    -- the cell that is entered
    have key : ∃ sk' L' τ' own' p, f_Names_enter F c N (some t) (cH sk L τ) = some (some p, cH sk' L' τ') ∧ EX sk L sk' L' ∧ RMk sk' L' k ∧ NP sk' L' τ' own' ∧ isNm τ' p w ∧ blk τ' p ∧ 1815 ≤ p ∧ eN τ' A ws.length = some p ∧ fI τ' N 2 = nI (ws.length + 1) ∧ frQ N A ws.length p τ τ' := by
      unfold f_Names_enter
      rw [c_o s1, bs, k_find hns ht hw hok hF, xb_mk, hi]
      show ∃ sk' L' τ' own' p, ((xgI (cH sk L τ) 6 2 N).bind _) = _ ∧ _
      rw [C6g2 s1, bs, C6r0 s1 s2, bs, c_l s3 (by decide), bs, s6, if_pos (nI_lt hl (by omega)), bs, bs, c_aN s3 (by decide) (by omega) hl, bs]
      cases e : eN τ A ws.length with
      | some p =>
        obtain ⟨p1, p2, p3⟩ := hnp A ws.length p hA e
        have htp : t ≠ p := fun q => by
          rcases hto with h1 | ⟨B, i, h1, h2, h3⟩
          · omega
          · have h4 := (hnp B i t h1 h2).2.2
            rw [q, p3] at h4
            exact h3 ⟨(congrArg Prod.fst h4).symm, (congrArg Prod.snd h4).symm⟩
        obtain ⟨τ', g1, g2, g3, g4, g5, g6, g7, g8, g9, g10⟩ := k_enter_61 (F := F) (c := c) (A := A) s1 p2 ht htp (by omega) hw s6
        refine ⟨sk, L, τ', own, p, g1, EX_refl, ⟨by have := hr.1; omega, by have := hr.2; omega⟩, ?_, g2, g3, p1, ?_, g4, g5, g6, g7, g8, g9, fun a _ => g10 a, fun i _ => by rw [g10 A]⟩
        · intro B i q hB hq
          rw [g10 B] at hq
          exact hnp B i q hB hq
        · rw [g10 A]; exact e
      | none =>
        obtain ⟨n1, n2, n3, n4⟩ := c_new5 (τ := τ) hr
        have hA3 := ar_ex s3 n3
        have hN3 := ob_ex s1 n3
        have ht3 := ob_ex ht n3
        have a1 : A ≠ L := by omega
        have a2 : N ≠ L := by omega
        have a3 : t ≠ L := Nat.ne_of_lt ht.2
        obtain ⟨τ2, hτ2⟩ : ∃ x, x = vN (nw τ L) A (va_up (eN (nw τ L) A) ws.length (some L)) := ⟨_, rfl⟩
        have hI : ∀ a k, a ≠ L → fI τ2 a k = fI τ a k := fun a k h => by rw [hτ2]; exact nw_I h
        have hJ : ∀ a k, a ≠ L → fJ τ2 a k = fJ τ a k := fun a k h => by rw [hτ2]; exact nw_J h
        have hNN : ∀ a k, a ≠ L → fN τ2 a k = fN τ a k := fun a k h => by rw [hτ2]; exact nw_N h
        have hE : ∀ a, a ≠ A → eN τ2 a = eN τ a := fun a h => by rw [hτ2]; exact u1_ne h
        have hEA : eN τ2 A = va_up (eN τ A) ws.length (some L) := by rw [hτ2]; exact (u1_eq : u1 (nw τ L).2.2.2.2.2 A (va_up (eN (nw τ L) A) ws.length (some L)) A = _)
        obtain ⟨τ', g1, g2, g3, g4, g5, g6, g7, g8, g9, g10⟩ := k_enter_61 (F := F) (c := c) (A := A) (τ := τ2) (w := w) hN3 n4 ht3 a3 a2 ⟨(hJ t 0 a3).trans hw.1, (hJ t 1 a3).trans hw.2.1, (hJ t 2 a3).trans hw.2.2.1, (hI t 3 a3).trans hw.2.2.2⟩ ((hI N 2 a2).trans s6)
        refine ⟨skN sk L 5, L + 1, τ', fun q => if q = L then (A, ws.length) else own q, L, ?_, n3, n2, ?_, g2, g3, hL, ?_, g4, ?_, ?_, ?_, ?_, ?_, ?_, ?_⟩
        · show xb (xnew (cH sk L τ) 5) _ = _
          unfold f_Name_init
          rw [n1, xb_mk, xb_mk, C6r0 hN3 ((nw_N a2).trans s2), bs, C6g2 hN3, bs, nw_I a2, s6, c_sO hA3 (by decide) (by omega) hl n4, bs, ← hτ2]
          exact g1
        · intro B i q hB hq
          rw [g10 B] at hq
          by_cases cB : B = A
          · rw [cB, hEA] at hq
            by_cases ci : i = ws.length
            · rw [ci, va_up_a] at hq
              have hqL : L = q := Option.some.inj hq
              rw [← hqL, ci, cB]
              exact ⟨hL, n4, if_pos rfl⟩
            · rw [va_up_n ci] at hq
              obtain ⟨b1, b2, b3⟩ := hnp A i q hA hq
              exact ⟨b1, ob_ex b2 n3, by rw [cB]; exact (if_neg (Nat.ne_of_lt b2.2)).trans b3⟩
          · rw [hE B cB] at hq
            obtain ⟨b1, b2, b3⟩ := hnp B i q hB hq
            exact ⟨b1, ob_ex b2 n3, (if_neg (Nat.ne_of_lt b2.2)).trans b3⟩
        · rw [g10 A, hEA, va_up_a]
        · intro a k h1 h2; exact (g5 a k h1 h2).trans (hI a k h1)
        · intro a k h1; exact (g6 a k h1).trans (hJ a k h1)
        · intro a k h1; exact (g7 a k h1).trans (hNN a k h1)
        · intro a; rw [g8 a, hτ2]; rfl
        · intro a; rw [g9 a, hτ2]; rfl
        · intro a h; exact (g10 a).trans (hE a h)
        · intro i hi; rw [g10 A, hEA, va_up_n hi]
    obtain ⟨sk', L', τ', own', p, k1, k2, k3, k4, k5, k6, k7, k8, k9, q1, q2, q3, q4, q5, q6, q7⟩ := key
    have hpp : ∀ a, oth2 A ws.length τ a → a ≠ p := fun a ha q => by
      rcases ha with h1 | ⟨B, i, h1, h2, h3⟩
      · omega
      · have h4 : eN τ' B i = some a := by
          by_cases cB : B = A
          · rw [cB, q7 i (fun e => h3 ⟨cB, e⟩), ← cB]; exact h2
          · rw [q6 B cB]; exact h2
        have h5 := (k4 B i a h1 h4).2.2
        have h6 := (k4 A ws.length p hA k8).2.2
        rw [q, h6] at h5
        exact h3 ⟨(congrArg Prod.fst h5).symm, (congrArg Prod.snd h5).symm⟩
    have eP : pN τ' A ws.length = p := by unfold pN; rw [k8]; rfl
    have eI' : ∀ i, i < ws.length → pN τ' A i = pN τ A i := fun i hi => by unfold pN; rw [q7 i (by omega)]
    refine ⟨sk', L', τ', own', ?_, k2, k3, k4, ?_, fun _ => by rw [eP]; exact k6, fun q => absurd rfl q, fun a k ha h => q1 a k (hpp a ha) h, fun a k ha => q2 a k (hpp a ha), fun a k ha => q3 a k (hpp a ha), q4, q5, q6, q7⟩
    · rw [hplc, eP]; exact k1
    · rw [hent]
      have hNo : oth2 A ws.length τ N := Or.inl (by omega)
      refine ⟨ob_ex s1 k2, (q3 N 0 (hpp N hNo)).trans s2, ar_ex s3 k2, by rw [List.length_append, List.length_singleton]; omega, s5, by rw [List.length_append, List.length_singleton]; exact k9, fun i v hv => ?_⟩
      by_cases ci : i < ws.length
      · rw [List.getElem?_append_left ci] at hv
        obtain ⟨z1, z2, z3, z4⟩ := s7 i v hv
        have hoi : oth2 A ws.length τ (pN τ A i) := Or.inr ⟨A, i, hA, z2, fun e => by omega⟩
        rw [eI' i ci]
        refine ⟨z1, by rw [q7 i (by omega)]; exact z2, ob_ex z3 k2, ?_⟩
        exact ⟨(q2 _ 0 (hpp _ hoi)).trans z4.1, (q2 _ 1 (hpp _ hoi)).trans z4.2.1, (q2 _ 2 (hpp _ hoi)).trans z4.2.2.1, (q1 _ 3 (hpp _ hoi) (Or.inr (by decide))).trans z4.2.2.2⟩
      · have ci2 : i = ws.length := by
          have := (List.getElem?_eq_some_iff.mp hv).1
          rw [List.length_append, List.length_singleton] at this
          omega
        rw [ci2, List.getElem?_append_right (Nat.le_refl _), Nat.sub_self] at hv
        have hv : w = v := Option.some.inj hv
        rw [← hv, ci2, eP]
        exact ⟨hok, k8, (k4 A ws.length p hA k8).2.1, k5⟩
end ENG
end
section
/-! define of the class -/
/-- a name's cell p has got a definition -/
def frDf (p : Nat) (τ τ' : px_TT) : Prop := (∀ a k, (a ≠ p ∨ (k ≠ 4 ∧ k ≠ 5 ∧ k ≠ 9 ∧ k ≠ 13)) → (a ≠ 147 ∨ k ≠ 15) → fI τ' a k = fI τ a k) ∧ (∀ a k, (a ≠ p ∨ (k ≠ 7 ∧ k ≠ 8)) → fJ τ' a k = fJ τ a k) ∧ (∀ a k, (a ≠ p ∨ k ≠ 6) → fN τ' a k = fN τ a k) ∧ (∀ a, eI τ' a = eI τ a) ∧ (∀ a, eJ τ' a = eJ τ a) ∧ (∀ a, a ≠ 1693 → eN τ' a = eN τ a)
def isDf (τ : px_TT) (p : Nat) (s hm : Int32) (pt : Option Nat) (v z : Int64) : Prop := fI τ p 4 = s ∧ fI τ p 5 = hm ∧ fN τ p 6 = pt ∧ fJ τ p 7 = v ∧ fJ τ p 8 = z ∧ fI τ p 13 = bI true
section CDF
variable {F : Nat} {c : px_CT} {sk : Nat → Nat × Nat × Nat} {L : Nat} {τ : px_TT} {p : Nat} {s hm inf : Int32} {pt : Option Nat} {v z : Int64}
theorem k_def39 (hp : ob sk L 5 p) : ∃ τ', f_Link_define_39 F c (some p) s hm pt v z inf (cH sk L τ) = some ((), cH sk L τ') ∧ isDf τ' p s hm pt v z ∧ frDf p τ τ' ∧ (∀ k, p ≠ 147 → fI τ' 147 k = fI τ 147 k) ∧ eN τ' 1693 = eN τ 1693 := by
  unfold f_Link_define_39
  rw [bs, C5p4 hp, bs, C5p5 hp, bs, C5w6 hp, bs, C5p7 hp, bs, C5p8 hp, bs, C5p9 hp, bs, show xpZ _ 5 13 p (nI 1) = _ from C5z13 hp true, bs]
  refine ⟨_, rfl, ⟨?_, ?_, ?_, ?_, ?_, ?_⟩, ⟨?_, ?_, ?_, fun _ => rfl, fun _ => rfl, fun _ _ => rfl⟩, ?_, rfl⟩
  · simp [fI_tI, fI_tJ, fI_tN]
  · simp [fI_tI, fI_tJ, fI_tN]
  · simp [fN_tI, fN_tJ, fN_tN]
  · simp [fJ_tI, fJ_tJ, fJ_tN]
  · simp [fJ_tI, fJ_tJ, fJ_tN]
  · simp [fI_tI, fI_tJ, fI_tN]
  · intro a k h _
    rcases h with h | h
    · simp only [fI_tI, fI_tJ, fI_tN, h, false_and, if_false]
    · simp only [fI_tI, fI_tJ, fI_tN, h.1, h.2.1, h.2.2.1, h.2.2.2, and_false, if_false]
  · intro a k h
    rcases h with h | h
    · simp only [fJ_tI, fJ_tJ, fJ_tN, h, false_and, if_false]
    · simp only [fJ_tI, fJ_tJ, fJ_tN, h.1, h.2, and_false, if_false]
  · intro a k h
    rcases h with h | h
    · simp only [fN_tI, fN_tJ, fN_tN, h, false_and, if_false]
    · simp only [fN_tI, fN_tJ, fN_tN, h, and_false, if_false]
  · intro k h
    have h : ¬ (147 = p) := fun e => h e.symm
    simp only [fI_tI, fI_tJ, fI_tN, h, false_and, if_false]
theorem k_define {n : Nat} (hS : GS sk L) (hR : fN τ 147 9 = some 1693) (hp : ob sk L 5 p) (hpl : 1815 ≤ p) (hn : n < 4128) (h15 : fI τ 147 15 = nI n) : ∃ τ', f_Link_define F c 147 (some p) s hm pt v z inf (cH sk L τ) = some ((), cH sk L τ') ∧ isDf τ' p s hm pt v z ∧ frDf p τ τ' ∧ (fI τ p 4 = nI 0 → fI τ' 147 15 = nI (n + 1) ∧ eN τ' 1693 = va_up (eN τ 1693) n (some p)) ∧ (fI τ p 4 ≠ nI 0 → fI τ' 147 15 = nI n ∧ eN τ' 1693 = eN τ 1693) := by
  have o147 := G147 hS
  have a1693 := G1693 hS
  unfold f_Link_define
  rw [bs, C5g4 hp, bs]
  by_cases c1 : fI τ p 4 = nI 0
  · rw [if_pos (show fI τ p 4 = 0 from c1), C3g15 o147, bs, C3r9 o147 hR, bs, c_l a1693 (by decide), bs, h15, if_neg (nI_ge (by omega) (by omega)), bs, bs, c_sO a1693 (by decide) (by omega) hn hp, bs]
    obtain ⟨τ1, hτ1⟩ : ∃ x, x = vN τ 1693 (va_up (eN τ 1693) n (some p)) := ⟨_, rfl⟩
    rw [← hτ1]
    have e15 : fI τ1 147 15 = nI n := by rw [hτ1]; exact h15
    rw [C3g15 o147, bs, e15, show (nI n) + (nI 1) = nI (n + 1) from nI_add .., C3p15 o147, bs]
    obtain ⟨τ', g1, g2, g3, g4, g5⟩ := k_def39 (F := F) (c := c) (τ := tI τ1 147 15 (nI (n + 1))) (s := s) (hm := hm) (inf := inf) (pt := pt) (v := v) (z := z) hp
    refine ⟨τ', g1, g2, ⟨fun a k h h2 => ?_, fun a k h => ?_, fun a k h => ?_, fun a => ?_, fun a => ?_, fun a h => ?_⟩, fun _ => ⟨?_, ?_⟩, fun q => absurd c1 q⟩
    · rw [g3.1 a k h h2, fI_tI, if_neg (fun q => h2.elim (fun e => e q.1) (fun e => e q.2)), hτ1]; rfl
    · rw [g3.2.1 a k h, fJ_tI, hτ1]; rfl
    · rw [g3.2.2.1 a k h, fN_tI, hτ1]; rfl
    · rw [g3.2.2.2.1 a, hτ1]; rfl
    · rw [g3.2.2.2.2.1 a, hτ1]; rfl
    · rw [g3.2.2.2.2.2 a h, hτ1]; exact u1_ne h
    · rw [g4 15 (by omega), fI_tI, if_pos ⟨rfl, rfl⟩]
    · rw [g5, hτ1]; exact (u1_eq : u1 τ.2.2.2.2.2 1693 (va_up (eN τ 1693) n (some p)) 1693 = _)
  · rw [if_neg (show ¬ fI τ p 4 = 0 from c1)]
    obtain ⟨τ', g1, g2, g3, g4, g5⟩ := k_def39 (F := F) (c := c) (τ := τ) (s := s) (hm := hm) (inf := inf) (pt := pt) (v := v) (z := z) hp
    exact ⟨τ', g1, g2, g3, fun q => absurd q c1, fun _ => ⟨(g4 15 (by omega)).trans h15, g5⟩⟩
end CDF
end
section
/-! the class's names in a link -/
/-- what a name's cell says of where its definition is -/
def cdf (tb : Nat → Nat → Nat) (τ : px_TT) (p : Nat) (r : px_NR) : Prop := (r.1 = 0 → fI τ p 5 = nI 0) ∧ (r.1 = 4 → fI τ p 5 = nI 4 ∧ fJ τ p 7 = lN (r.2.2.1 - 1)) ∧ (r.1 = 2 → fI τ p 5 = nI 3 ∧ fJ τ p 7 = lN r.2.2.2.2.2.2 ∧ fJ τ p 8 = lN r.2.2.2.2.2.1) ∧ (r.1 = 1 ∨ r.1 = 3 → r.2.2.2.1 = none → fI τ p 5 = nI 2 ∧ fJ τ p 7 = r.2.2.2.2.1) ∧ (r.1 = 1 ∨ r.1 = 3 → ∀ t k, r.2.2.2.1 = some (t, k) → fJ τ p 7 = lN (yV (tb t) k) ∧ (yW (tb t) k = 65521 → fI τ p 5 = nI 2) ∧ (yW (tb t) k ≠ 65521 → fI τ p 5 = nI 1 ∧ fN τ p 6 = some (152 + (24 * t + yW (tb t) k))))
def crec (tb : Nat → Nat → Nat) (τ : px_TT) (p : Nat) (r : px_NR) : Prop := fI τ p 4 = nI (if r.1 = 4 then 3 else r.1) ∧ (∃ a b, fI τ p 10 = bI a ∧ fI τ p 11 = bI b ∧ (a || b) = r.2.1) ∧ cdf tb τ p r ∧ ((r.1 = 1 ∨ r.1 = 2 ∨ r.1 = 3 → fI τ p 13 = bI true) ∧ fI τ p 15 = nI 0 ∧ fI τ p 16 = nI 0)
theorem crec_fr {tb : Nat → Nat → Nat} {τ τ' : px_TT} {p : Nat} {r : px_NR} (h : crec tb τ p r) (hI : ∀ k, fI τ' p k = fI τ p k) (hJ : ∀ k, fJ τ' p k = fJ τ p k) (hN : ∀ k, fN τ' p k = fN τ p k) : crec tb τ' p r := by
  unfold crec cdf
  rw [hI, hI, hI, hI, hI, hI, hI, hJ, hJ, hN]
  exact h
theorem crec_new {tb : Nat → Nat → Nat} {τ : px_TT} {p : Nat} (h : blk τ p) : crec tb τ p nr0 := by
  obtain ⟨⟨b1, b2, b3, b4, b5, b6⟩, ⟨b7, b8, b9, b10⟩, b11, b12, b13, b14⟩ := h
  exact ⟨b1, ⟨false, false, b7, b8, rfl⟩, ⟨fun _ => b2, fun q => (nomatch q), fun q => (nomatch q), fun q => q.elim (fun q => nomatch q) (fun q => nomatch q), fun q => q.elim (fun q => nomatch q) (fun q => nomatch q)⟩, (fun q => q.elim (fun q => nomatch q) (fun q => q.elim (fun q => nomatch q) (fun q => nomatch q))), b12, b13⟩
def CLn (sk : Nat → Nat × Nat × Nat) (L : Nat) (τ : px_TT) (tb : Nat → Nat → Nat) (xs : px_NL) (od : List Nat) (sg : List (List Nat)) : Prop := isNs sk L τ 148 149 4128 (xs.map Prod.fst) (pN τ 149) ∧ (∀ (i : Nat) (x : List Nat × px_NR), xs[i]? = some x → crec tb τ (pN τ 149 i) x.2 ∧ fI τ (pN τ 149 i) 12 = bI (decide (x.1 ∈ sg))) ∧ (fI τ 147 15 = nI od.length ∧ ∀ (i d : Nat), od[i]? = some d → d < xs.length ∧ eN τ 1693 i = some (pN τ 149 d)) ∧ ∀ w, w ∈ sg → w ∈ xs.map Prod.fst
section CNM
variable {F : Nat} {c : px_CT} {sk sk' : Nat → Nat × Nat × Nat} {L L' : Nat} {τ τ' : px_TT} {tb : Nat → Nat → Nat} {xs : px_NL} {od : List Nat} {sg : List (List Nat)} {w : List Nat}
theorem CLn_at {i : Nat} {x : List Nat × px_NR} (h : CLn sk L τ tb xs od sg) (hx : xs[i]? = some x) : okN x.1 ∧ eN τ 149 i = some (pN τ 149 i) ∧ ob sk L 5 (pN τ 149 i) ∧ isNm τ (pN τ 149 i) x.1 := h.1.2.2.2.2.2.2 i x.1 (by rw [List.getElem?_map, hx]; rfl)
theorem CLn_ent (h : CLn sk L τ tb xs od sg) (hns : isNs sk' L' τ' 148 149 4128 (ent w (xs.map Prod.fst)) (pN τ' 149)) (hb : idx w 0 (xs.map Prod.fst) = none → blk τ' (pN τ' 149 xs.length)) (he : idx w 0 (xs.map Prod.fst) ≠ none → τ' = τ) (hf : frEn 148 149 xs.length τ τ') : CLn sk' L' τ' tb (entL w xs) od sg := by
  obtain ⟨f1, f2, f3, f4, f5, f6, f7⟩ := id hf
  have h147 : oth2 149 xs.length τ 147 := Or.inl (by omega)
  have hl : xs.length ≤ (entL w xs).length := by
    unfold entL
    split
    · exact Nat.le_refl _
    · rw [List.length_append]; omega
  refine ⟨by rw [entL_fst]; exact hns, fun i x hx => ?_, ⟨(f1 147 15 h147 (Or.inl (by decide))).trans h.2.2.1.1, fun i d hd => ?_⟩, fun v hv => by rw [entL_fst]; exact ent_mem.mpr (Or.inr (h.2.2.2 v hv))⟩
  · by_cases ci : i < xs.length
    · have hx2 : xs[i]? = some x := by
        unfold entL at hx
        split at hx
        · exact hx
        · rw [List.getElem?_append_left ci] at hx; exact hx
      obtain ⟨z1, z2, z3, z4⟩ := CLn_at h hx2
      have eP : pN τ' 149 i = pN τ 149 i := by unfold pN; rw [f7 i (by omega)]
      have hoi : oth2 149 xs.length τ (pN τ 149 i) := Or.inr ⟨149, i, Or.inr (Or.inr rfl), z2, fun e => by omega⟩
      have hN : pN τ 149 i ≠ 148 := fun q => by
        have h1 : ks 148 = (0, 6, 0) := by decide
        have h2 := z3.1
        rw [q] at h2
        have h3 := h.1.1.1
        rw [h2] at h3
        cases h3
      obtain ⟨r1, r2⟩ := h.2.1 i x hx2
      rw [eP]
      exact ⟨crec_fr r1 (fun k => f1 _ k hoi (Or.inl hN)) (fun k => f2 _ k hoi) (fun k => f3 _ k hoi), (f1 _ 12 hoi (Or.inl hN)).trans r2⟩
    · have ei : (idx w 0 (xs.map Prod.fst)) = none := by
        cases e : idx w 0 (xs.map Prod.fst) with
        | none => rfl
        | some j =>
          unfold entL at hx
          rw [if_pos (by rw [e]; rfl)] at hx
          exact absurd (List.getElem?_eq_some_iff.mp hx).1 ci
      unfold entL at hx
      rw [if_neg (by rw [ei]; decide)] at hx
      have hi : i = xs.length := by
        have := (List.getElem?_eq_some_iff.mp hx).1
        rw [List.length_append, List.length_singleton] at this
        omega
      rw [hi, List.getElem?_append_right (Nat.le_refl _), Nat.sub_self] at hx
      have hx : (w, nr0) = x := Option.some.inj hx
      rw [← hx, hi]
      have hb := hb ei
      refine ⟨crec_new hb, ?_⟩
      have hw : w ∉ sg := fun q => by
        have h1 := idx_iff.mpr (h.2.2.2 w q)
        rw [ei] at h1
        cases h1
      show _ = bI (decide (w ∈ sg))
      rw [decide_eq_false hw]
      exact hb.2.1.2.2.1
  · obtain ⟨d1, d2⟩ := h.2.2.1.2 i d hd
    refine ⟨by omega, ?_⟩
    have eP : pN τ' 149 d = pN τ 149 d := by unfold pN; rw [f7 d (by omega)]
    rw [f6 1693 (by decide), eP]
    exact d2
end CNM
end
section
/-! a name's cell changes in a link -/
def frX (p : Nat) (τ τ' : px_TT) : Prop := (∀ a k, a ≠ p → (a ≠ 147 ∨ k ≠ 15) → fI τ' a k = fI τ a k) ∧ (∀ a k, a ≠ p → fJ τ' a k = fJ τ a k) ∧ (∀ a k, a ≠ p → fN τ' a k = fN τ a k) ∧ ((∀ k, k ≤ 2 → fJ τ' p k = fJ τ p k) ∧ fI τ' p 3 = fI τ p 3 ∧ fI τ' p 12 = fI τ p 12) ∧ (∀ a, eI τ' a = eI τ a) ∧ (∀ a, eJ τ' a = eJ τ a) ∧ (∀ a, a ≠ 1693 → eN τ' a = eN τ a)
theorem frX_df {p : Nat} {τ τ' : px_TT} (h : frDf p τ τ') (hp : p ≠ 147) : frX p τ τ' := ⟨fun a k ha h1 => h.1 a k (Or.inl ha) h1, fun a k ha => h.2.1 a k (Or.inl ha), fun a k ha => h.2.2.1 a k (Or.inl ha), ⟨fun k hk => h.2.1 p k (Or.inr (by omega)), h.1 p 3 (Or.inr (by decide)) (Or.inl hp), h.1 p 12 (Or.inr (by decide)) (Or.inl hp)⟩, h.2.2.2.1, h.2.2.2.2.1, h.2.2.2.2.2⟩
theorem frX_I {p k : Nat} {τ : px_TT} {v : Int32} (h3 : k ≠ 3) (h12 : k ≠ 12) : frX p τ (tI τ p k v) := ⟨fun a j ha _ => tI_ne (Or.inl ha), fun _ _ _ => rfl, fun _ _ _ => rfl, ⟨fun _ _ => rfl, tI_ne (Or.inr (fun e => h3 e.symm)), tI_ne (Or.inr (fun e => h12 e.symm))⟩, fun _ => rfl, fun _ => rfl, fun _ _ => rfl⟩
section CNX
variable {F : Nat} {c : px_CT} {sk sk' : Nat → Nat × Nat × Nat} {L L' : Nat} {τ τ' : px_TT} {tb : Nat → Nat → Nat} {xs : px_NL} {od od' : List Nat} {sg : List (List Nat)} {w : List Nat} {own : Nat → Nat × Nat}
theorem NP_X {p : Nat} (hn : NP sk L τ own) (f : frX p τ τ') : NP sk L τ' own := fun A i q hA hq => by
  rw [f.2.2.2.2.2.2 A (by omega)] at hq
  exact hn A i q hA hq
theorem NP_ne {A B i j p q : Nat} (hn : NP sk L τ own) (hA : A = 141 ∨ A = 144 ∨ A = 149) (hB : B = 141 ∨ B = 144 ∨ B = 149) (h1 : eN τ A i = some p) (h2 : eN τ B j = some q) (hne : ¬ (A = B ∧ i = j)) : p ≠ q := fun e => by
  have h3 := (hn A i p hA h1).2.2
  have h4 := (hn B j q hB h2).2.2
  rw [e, h4] at h3
  exact hne ⟨(congrArg Prod.fst h3).symm, (congrArg Prod.snd h3).symm⟩
theorem CLn_upd {i : Nat} {x : List Nat × px_NR} {f : px_NR → px_NR} (h : CLn sk L τ tb xs od sg) (hn : NP sk L τ own) (hx : xs[i]? = some x) (hf : frX (pN τ 149 i) τ τ') (hc : crec tb τ' (pN τ 149 i) (f x.2)) (ho : fI τ' 147 15 = nI od'.length ∧ ∀ (j d : Nat), od'[j]? = some d → d < xs.length ∧ eN τ' 1693 j = some (pN τ 149 d)) : CLn sk L τ' tb (setR xs i f) od' sg := by
  obtain ⟨s1, s2, s3, s4, s5, s6, s7⟩ := id h.1
  obtain ⟨z1, z2, z3, z4⟩ := CLn_at h hx
  have h1815 := (hn 149 i _ (Or.inr (Or.inr rfl)) z2).1
  have e149 : eN τ' 149 = eN τ 149 := hf.2.2.2.2.2.2 149 (by decide)
  have eP : ∀ j, pN τ' 149 j = pN τ 149 j := fun j => by unfold pN; rw [e149]
  have hset : setR xs i f = xs.set i (x.1, f x.2) := by unfold setR; rw [hx]
  refine ⟨?_, fun j y hy => ?_, ⟨ho.1, fun j d hd => ?_⟩, fun v hv => by rw [setR_fst]; exact h.2.2.2 v hv⟩
  · rw [setR_fst]
    refine ⟨s1, (hf.2.2.1 148 0 (by omega)).trans s2, s3, s4, s5, (hf.1 148 2 (by omega) (Or.inl (by decide))).trans s6, fun j v hv => ?_⟩
    obtain ⟨y1, y2, y3, y4⟩ := s7 j v hv
    rw [eP, e149]
    refine ⟨y1, y2, y3, ?_⟩
    by_cases cj : pN τ 149 j = pN τ 149 i
    · rw [cj] at y4 ⊢
      exact ⟨(hf.2.2.2.1.1 0 (by decide)).trans y4.1, (hf.2.2.2.1.1 1 (by decide)).trans y4.2.1, (hf.2.2.2.1.1 2 (by decide)).trans y4.2.2.1, hf.2.2.2.1.2.1.trans y4.2.2.2⟩
    · have := (hn 149 j _ (Or.inr (Or.inr rfl)) y2).1
      exact ⟨(hf.2.1 _ 0 cj).trans y4.1, (hf.2.1 _ 1 cj).trans y4.2.1, (hf.2.1 _ 2 cj).trans y4.2.2.1, (hf.1 _ 3 cj (Or.inl (by omega))).trans y4.2.2.2⟩
  · rw [hset] at hy
    rw [eP]
    by_cases cj : j = i
    · rw [cj, List.getElem?_set_self (List.getElem?_eq_some_iff.mp hx).1] at hy
      have hy : (x.1, f x.2) = y := Option.some.inj hy
      rw [← hy, cj]
      exact ⟨hc, hf.2.2.2.1.2.2.trans (h.2.1 i x hx).2⟩
    · rw [List.getElem?_set_ne (fun e => cj e.symm)] at hy
      obtain ⟨y1, y2, y3, y4⟩ := CLn_at h hy
      have hne : pN τ 149 j ≠ pN τ 149 i := NP_ne hn (Or.inr (Or.inr rfl)) (Or.inr (Or.inr rfl)) y2 z2 (fun e => cj e.2)
      have hg := (hn 149 j _ (Or.inr (Or.inr rfl)) y2).1
      obtain ⟨r1, r2⟩ := h.2.1 j y hy
      exact ⟨crec_fr r1 (fun k => hf.1 _ k hne (Or.inl (by omega))) (fun k => hf.2.1 _ k hne) (fun k => hf.2.2.1 _ k hne), (hf.1 _ 12 hne (Or.inl (by omega))).trans r2⟩
  · obtain ⟨d1, d2⟩ := ho.2 j d hd
    rw [setR_len, eP]
    exact ⟨d1, d2⟩
end CNX
end
section
/-! what stays in a link while names come and change -/
def frLk (τ τ' : px_TT) : Prop := (∀ a k, a < 1815 → (a ≠ 148 ∨ k ≠ 2) → (a ≠ 147 ∨ k ≠ 15) → fI τ' a k = fI τ a k) ∧ (∀ a k, a < 1815 → fJ τ' a k = fJ τ a k) ∧ (∀ a k, a < 1815 → fN τ' a k = fN τ a k) ∧ (∀ a, eI τ' a = eI τ a) ∧ (∀ a, eJ τ' a = eJ τ a) ∧ (∀ a, a ≠ 149 → a ≠ 1693 → eN τ' a = eN τ a) ∧ ∀ B i p, (B = 141 ∨ B = 144) → eN τ B i = some p → (∀ k, fI τ' p k = fI τ p k) ∧ (∀ k, fJ τ' p k = fJ τ p k) ∧ ∀ k, fN τ' p k = fN τ p k
theorem frLk_refl {τ : px_TT} : frLk τ τ := ⟨fun _ _ _ _ _ => rfl, fun _ _ _ => rfl, fun _ _ _ => rfl, fun _ => rfl, fun _ => rfl, fun _ _ _ => rfl, fun _ _ _ _ _ => ⟨fun _ => rfl, fun _ => rfl, fun _ => rfl⟩⟩
theorem frLk_trans {τ τ1 τ2 : px_TT} (h : frLk τ τ1) (g : frLk τ1 τ2) : frLk τ τ2 := by
  refine ⟨fun a k h1 h2 h3 => (g.1 a k h1 h2 h3).trans (h.1 a k h1 h2 h3), fun a k h1 => (g.2.1 a k h1).trans (h.2.1 a k h1), fun a k h1 => (g.2.2.1 a k h1).trans (h.2.2.1 a k h1), fun a => (g.2.2.2.1 a).trans (h.2.2.2.1 a), fun a => (g.2.2.2.2.1 a).trans (h.2.2.2.2.1 a), fun a h1 h2 => (g.2.2.2.2.2.1 a h1 h2).trans (h.2.2.2.2.2.1 a h1 h2), fun B i p hB hp => ?_⟩
  have a1 := h.2.2.2.2.2.2 B i p hB hp
  have a2 := g.2.2.2.2.2.2 B i p hB (by rw [h.2.2.2.2.2.1 B (by omega) (by omega)]; exact hp)
  exact ⟨fun k => (a2.1 k).trans (a1.1 k), fun k => (a2.2.1 k).trans (a1.2.1 k), fun k => (a2.2.2 k).trans (a1.2.2 k)⟩
section CFM
variable {F : Nat} {c : px_CT} {sk sk' : Nat → Nat × Nat × Nat} {L L' : Nat} {τ τ' : px_TT} {own : Nat → Nat × Nat} {gs : List (List Nat × Int64)} {ws : List (List Nat)}
theorem frLk_En {j : Nat} (hn : NP sk L τ own) (f : frEn 148 149 j τ τ') : frLk τ τ' := by
  refine ⟨fun a k h1 h2 _ => f.1 a k (Or.inl h1) h2, fun a k h1 => f.2.1 a k (Or.inl h1), fun a k h1 => f.2.2.1 a k (Or.inl h1), f.2.2.2.1, f.2.2.2.2.1, fun a h1 _ => f.2.2.2.2.2.1 a h1, fun B i p hB hp => ?_⟩
  have hB3 : B = 141 ∨ B = 144 ∨ B = 149 := by omega
  have h1 := (hn B i p hB3 hp).1
  have ho : oth2 149 j τ p := Or.inr ⟨B, i, hB3, hp, fun e => by omega⟩
  exact ⟨fun k => f.1 p k ho (Or.inl (by omega)), fun k => f.2.1 p k ho, fun k => f.2.2.1 p k ho⟩
theorem frLk_X {i p : Nat} (hn : NP sk L τ own) (hp : eN τ 149 i = some p) (f : frX p τ τ') : frLk τ τ' := by
  have h1 := (hn 149 i p (Or.inr (Or.inr rfl)) hp).1
  refine ⟨fun a k h2 _ h3 => f.1 a k (by omega) h3, fun a k h2 => f.2.1 a k (by omega), fun a k h2 => f.2.2.1 a k (by omega), f.2.2.2.2.1, f.2.2.2.2.2.1, fun a _ h2 => f.2.2.2.2.2.2 a h2, fun B j q hB hq => ?_⟩
  have hB3 : B = 141 ∨ B = 144 ∨ B = 149 := by omega
  have h2 := (hn B j q hB3 hq).1
  have hne : q ≠ p := NP_ne hn hB3 (Or.inr (Or.inr rfl)) hq hp (fun e => by omega)
  exact ⟨fun k => f.1 q k hne (Or.inl (by omega)), fun k => f.2.1 q k hne, fun k => f.2.2.1 q k hne⟩
theorem GR_Lk (h : GR τ) (f : frLk τ τ') : GR τ' := GR_mv h (fun a k ha => f.2.2.1 a k (by omega)) (fun a k ha _ => f.1 a k (by omega) (Or.inl (by omega)) (Or.inl (by omega))) (f.2.2.2.2.2.1 9 (by decide) (by decide)) (f.2.2.2.2.2.1 151 (by decide) (by decide))
theorem CN_Lk {N A : Nat} (h : CN sk L τ N A ws) (e : EX sk L sk' L') (f : frLk τ τ') (hN : N = 140 ∨ N = 143) (hA : A = 141 ∨ A = 144) : CN sk' L' τ' N A ws := by
  obtain ⟨s1, s2, s3, s4, s5, s6, s7⟩ := h
  have eA : eN τ' A = eN τ A := f.2.2.2.2.2.1 A (by omega) (by omega)
  refine ⟨ob_ex s1 e, (f.2.2.1 N 0 (by omega)).trans s2, ar_ex s3 e, s4, s5, (f.1 N 2 (by omega) (Or.inl (by omega)) (Or.inl (by omega))).trans s6, fun i w hw => ?_⟩
  obtain ⟨z1, z2, z3, z4⟩ := s7 i w hw
  have hz := f.2.2.2.2.2.2 A i _ hA z2
  rw [eA]
  exact ⟨z1, z2, ob_ex z3 e, (hz.2.1 0).trans z4.1, (hz.2.1 1).trans z4.2.1, (hz.2.1 2).trans z4.2.2.1, (hz.1 3).trans z4.2.2.2⟩
theorem CG_Lk (h : CG sk L τ gs) (e : EX sk L sk' L') (f : frLk τ τ') : CG sk' L' τ' gs := by
  refine ⟨CN_Lk h.1 e f (Or.inl rfl) (Or.inl rfl), fun i x hx => ?_⟩
  have hm : (gs.map Prod.fst)[i]? = some x.1 := by rw [List.getElem?_map, hx]; rfl
  have hp : eN τ 141 i = some ((eN τ 141 i).getD 0) := (h.1.2.2.2.2.2.2 i _ hm).2.1
  have hz := f.2.2.2.2.2.2 141 i _ (Or.inl rfl) hp
  rw [f.2.2.2.2.2.1 141 (by decide) (by decide), hz.2.1 7]
  exact h.2 i x hx
theorem CW_Lk (h : CW sk L τ ws) (e : EX sk L sk' L') (f : frLk τ τ') : CW sk' L' τ' ws := CN_Lk h e f (Or.inr rfl) (Or.inr rfl)
theorem EX_trans {sk'' : Nat → Nat × Nat × Nat} {L'' : Nat} (h : EX sk L sk' L') (g : EX sk' L' sk'' L'') : EX sk L sk'' L'' := ⟨Nat.le_trans h.1 g.1, fun a ha => (g.2 a (Nat.lt_of_lt_of_le ha h.1)).trans (h.2 a ha)⟩
/-- at of the class's lists of names told -/
theorem k_natG {N A i : Nat} {v : List Nat} (h : CN sk L τ N A ws) (hi : ws[i]? = some v) : f_Names_at F c N (nI i) (cH sk L τ) = some (some ((eN τ A i).getD 0), cH sk L τ) ∧ ob sk L 5 ((eN τ A i).getD 0) ∧ isNm τ ((eN τ A i).getD 0) v ∧ okN v ∧ eN τ A i = some ((eN τ A i).getD 0) := by
  obtain ⟨s1, s2, s3, s4, s5, s6, s7⟩ := h
  obtain ⟨z1, z2, z3, z4⟩ := s7 i v hi
  have hl := (List.getElem?_eq_some_iff.mp hi).1
  refine ⟨?_, z3, z4, z1, z2⟩
  unfold f_Names_at
  rw [if_neg (show ¬ nI i < 0 from nI_nlt (b := 0) (Nat.zero_le _) (by omega)), C6g2 s1, bs, s6, if_neg (nI_ge hl (by omega)), C6r0 s1 s2, bs, c_l s3 (by decide), bs, if_neg (nI_ge (by omega) (by omega)), bs, c_aN s3 (by decide) (by omega) (by omega), bs]
  unfold f_Names_at_31 f_Names_at_44
  rw [z2]
  rfl
end CFM
end
section
/-! begin of the class: the names given -/
section CBG
variable {F : Nat} {c : px_CT} {gs : List (List Nat × Int64)} {tb : Nat → Nat → Nat}
theorem k_bg_75 (hF : 4128 < F) : ∀ (l : List (List Nat × Int64)) (i f k : Nat) (sk : Nat → Nat × Nat × Nat) (L : Nat) (τ : px_TT) (own : Nat → Nat × Nat) (xs : px_NL) (od : List Nat), gs.drop i = l → i + l.length = gs.length → l.length < f → GS sk L → GR τ → NP sk L τ own → CG sk L τ gs → CLn sk L τ tb xs od [] → xs.length + l.length ≤ 4096 → od.length + l.length ≤ 4096 → RMk sk L (k + l.length) → (∀ g, g ∈ l → g.1 ∉ xs.map Prod.fst) → (l.map Prod.fst).Nodup → ∃ sk' L' τ' own', f_Link_begin_75 F c f 147 (nI i) (cH sk L τ) = f_Link_begin_123 F c 147 (cH sk' L' τ') ∧ EX sk L sk' L' ∧ RMk sk' L' k ∧ NP sk' L' τ' own' ∧ CLn sk' L' τ' tb (tlG l (xs, od)).1 (tlG l (xs, od)).2 [] ∧ frLk τ τ' := by
  intro l
  induction l with
  | nil =>
    intro i f k sk L τ own xs od hd hil0 hf hS hR hn hg hC hx ho hr hq hnd
    obtain ⟨f, rfl⟩ : ∃ x, f = x + 1 := ⟨f - 1, by omega⟩
    have o147 := G147 hS
    obtain ⟨s1, s2, s3, s4, s5, s6, s7⟩ := id hg.1
    rw [List.length_map] at s4 s6
    rw [List.length_nil] at hil0
    refine ⟨sk, L, τ, own, ?_, EX_refl, hr, hn, hC, frLk_refl⟩
    unfold f_Link_begin_75
    rw [C3r1 o147 (GR_r (v := 140) hR (by decide)), bs, C6g2 s1, bs, s6, if_pos (nI_le (by omega) (by omega))]
  | cons g l ih =>
    intro i f k sk L τ own xs od hd hil0 hf hS hR hn hg hC hx ho hr hq hnd
    obtain ⟨f, rfl⟩ : ∃ x, f = x + 1 := ⟨f - 1, by omega⟩
    have o147 := G147 hS
    obtain ⟨s1, s2, s3, s4, s5, s6, s7⟩ := id hg.1
    rw [List.length_map] at s4 s6
    rw [List.length_cons] at hf hx ho hr hil0
    have hgi : gs[i]? = some g := by
      have := congrArg (fun z => z[0]?) hd
      simp only [List.getElem?_drop, Nat.add_zero, List.getElem?_cons_zero] at this
      exact this
    have hil := (List.getElem?_eq_some_iff.mp hgi).1
    have hd' : gs.drop (i + 1) = l := by
      have := congrArg List.tail hd
      rw [List.tail_drop] at this
      exact this
    obtain ⟨n1, n2, n3, n4, n5⟩ := k_natG (F := F) (c := c) hg.1 (show (gs.map Prod.fst)[i]? = some g.1 by rw [List.getElem?_map, hgi]; rfl)
    have hv := hg.2 i g hgi
    generalize hP : (eN τ 141 i).getD 0 = p at *
    have hto : oth2 149 (xs.map Prod.fst).length τ p := Or.inr ⟨141, i, Or.inl rfl, n5, fun e => by omega⟩
    have hxl : (xs.map Prod.fst).length = xs.length := List.length_map ..
    have hw : g.1 ∉ xs.map Prod.fst := hq g (List.mem_cons_self ..)
    have hidx : idx g.1 0 (xs.map Prod.fst) = none := by
      cases e : idx g.1 0 (xs.map Prod.fst) with
      | none => rfl
      | some j => exact absurd (idx_iff.mp (by rw [e]; rfl)) hw
    obtain ⟨sk1, L1, τ1, own1, e1, e2, e3, e4, e5, e6, e7, e8⟩ := k_enterG (F := F) (c := c) (k := k + l.length) hS hC.1 hn (Or.inr (Or.inr rfl)) (by decide) n2 hto n3 n4 (by rw [hxl]; omega) (by rw [hxl]; omega) hr
    rw [hxl] at e6 e8
    have hC1 := CLn_ent hC e5 e6 e7 e8
    have f1 := frLk_En hn e8
    have hS1 := GS_ex hS e2
    have hR1 := GR_Lk hR f1
    obtain ⟨r, p1, p2⟩ := plc_at (w := g.1) (xs := xs)
    have hr0 : r = nr0 := by
      have e : plc g.1 (xs.map Prod.fst) = xs.length := by unfold plc; rw [hidx, hxl]; rfl
      rw [e] at p1
      unfold entL at p1
      rw [if_neg (by rw [hidx]; decide), List.getElem?_append_right (Nat.le_refl _), Nat.sub_self] at p1
      exact (congrArg Prod.snd (Option.some.inj p1)).symm
    obtain ⟨z1, z2, z3, z4⟩ := CLn_at hC1 p1
    have zq := (e4 149 _ _ (Or.inr (Or.inr rfl)) z2).1
    obtain ⟨c1, c2, c3⟩ := (hC1.2.1 _ _ p1).1
    have hv1 : fJ τ1 p 7 = g.2 := ((f1.2.2.2.2.2.2 141 i p (Or.inl rfl) n5).2.1 7).trans hv
    obtain ⟨τ2, d1, d2, d3, d4, d5⟩ := k_define (F := F) (c := c) (τ := τ1) (s := nI 3) (hm := nI 2) (inf := nI 16) (pt := none) (v := g.2) (z := lN 0) hS1 (GR_r hR1 (by decide)) z3 zq (show od.length < 4128 by omega) hC1.2.2.1.1
    have q147 : pN τ1 149 (plc g.1 (xs.map Prod.fst)) ≠ 147 := by omega
    have fx := frX_df d3 q147
    have f2 := frLk_X e4 z2 fx
    have hc2 : crec tb τ2 (pN τ1 149 (plc g.1 (xs.map Prod.fst))) (gvR g.2 r) := by
      obtain ⟨a, b, g1, g2, g3⟩ := c2
      refine ⟨d2.1, ⟨a, b, (d3.1 _ 10 (Or.inr (by decide)) (Or.inl q147)).trans g1, (d3.1 _ 11 (Or.inr (by decide)) (Or.inl q147)).trans g2, g3⟩, ⟨fun q => (nomatch q), fun q => (nomatch q), fun q => (nomatch q), fun _ _ => ⟨d2.2.1, d2.2.2.2.1⟩, fun _ t k q => ?_⟩, (fun _ => d2.2.2.2.2.2), (d3.1 _ 15 (Or.inr (by decide)) (Or.inl q147)).trans c3.2.2.1, (d3.1 _ 16 (Or.inr (by decide)) (Or.inl q147)).trans c3.2.2.2⟩
      rw [hr0] at q
      cases q
    have h40 : fI τ1 (pN τ1 149 (plc g.1 (xs.map Prod.fst))) 4 = nI 0 := by rw [c1, hr0]; rfl
    obtain ⟨o1, o2⟩ := d4 h40
    have hC2 := CLn_upd (f := gvR g.2) (od' := od ++ [plc g.1 (xs.map Prod.fst)]) hC1 e4 p1 fx hc2 ⟨by rw [List.length_append, List.length_singleton]; exact o1, fun j d hd => by
      by_cases cj : j < od.length
      · rw [List.getElem?_append_left cj] at hd
        obtain ⟨y1, y2⟩ := hC1.2.2.1.2 j d hd
        rw [o2, va_up_n (by omega)]
        exact ⟨y1, y2⟩
      · have ej : j = od.length := by
          have := (List.getElem?_eq_some_iff.mp hd).1
          rw [List.length_append, List.length_singleton] at this
          omega
        rw [ej, List.getElem?_append_right (Nat.le_refl _), Nat.sub_self] at hd
        have hd : plc g.1 (xs.map Prod.fst) = d := Option.some.inj hd
        rw [← hd, ej, o2, va_up_a]
        exact ⟨p2, rfl⟩⟩
    rw [List.map_cons] at hnd
    have hnd2 := List.nodup_cons.mp hnd
    have hel := entL_len (w := g.1) (xs := xs)
    obtain ⟨sk3, L3, τ3, own3, j1, j2, j3, j4, j5, j6⟩ := ih (i + 1) f k sk1 L1 τ2 own1 (setR (entL g.1 xs) (plc g.1 (xs.map Prod.fst)) (gvR g.2)) (od ++ [plc g.1 (xs.map Prod.fst)]) hd' (by omega) (by omega) hS1 (GR_Lk hR1 f2) (NP_X e4 fx) (CG_Lk hg e2 (frLk_trans f1 f2)) hC2 (by rw [setR_len]; omega) (by rw [List.length_append, List.length_singleton]; omega) e3 (fun g' hg' => by
      rw [setR_fst, entL_fst]
      intro q
      rcases ent_mem.mp q with q | q
      · exact hnd2.1 (by rw [← q]; exact List.mem_map_of_mem hg')
      · exact hq g' (List.mem_cons_of_mem _ hg') q) hnd2.2
    refine ⟨sk3, L3, τ3, own3, ?_, EX_trans e2 j2, j3, j4, j5, frLk_trans f1 (frLk_trans f2 j6)⟩
    unfold f_Link_begin_75
    rw [C3r1 o147 (GR_r (v := 140) hR (by decide)), bs, C6g2 s1, bs, s6, if_neg (nI_ge hil (by omega)), bs, c_o s1, bs, n1, xb_mk, C3r3 o147 (GR_r (v := 148) hR (by decide)), bs, c_o hC.1.1, bs, e1, xb_mk, bs, C5g7 (ob_ex n2 e2), bs, hv1, c_o (G147 hS1), bs, d1, xb_mk, nI_add]
    exact j1
end CBG
end
