/-! what is known of all that is taken -/
def drI (dr : Nat → Bool) (T : Nat) (dr' : Nat → Bool) : Prop := ∀ x, (x < 24 * T ∨ 24 * T + 24 ≤ x) → dr' x = dr x
theorem wNo_dr {dr dr' : Nat → Bool} {t : Nat} {b : Nat → Nat} {k : Nat} (h : ∀ w, w < 24 → dr' (24 * t + w) = dr (24 * t + w)) : wNo dr' t b k = wNo dr t b k := by
  unfold wNo
  generalize yW b k = w at *
  by_cases c : w < 24
  · rw [h w c]
  · rw [if_neg (fun q => c q.2.1), if_neg (fun q => c q.2.1)]
theorem sOf_dr {dr dr' : Nat → Bool} {t : Nat} {b : Nat → Nat} {k : Nat} (h : ∀ w, w < 24 → dr' (24 * t + w) = dr (24 * t + w)) : sOf dr' t b k = sOf dr t b k := by
  unfold sOf
  rw [wNo_dr h]
theorem byP_up {T : Nat} {tb tb' : Nat → Nat → Nat} {dr dr' : Nat → Bool} {x : List Nat × px_NR} (h : byP T tb dr x) (hb : ∀ t, t < T → tb' t = tb t) (hd : ∀ y, y < 24 * T → dr' y = dr y) : byP (T + 1) tb' dr' x := by
  unfold byP at *
  cases e : x.2.2.2.2.1 with
  | none => rw [e] at h; exact h
  | some q =>
    rw [e] at h
    obtain ⟨h1, h2, h3, h4, h5, h6⟩ := h
    have e1 := hb q.1 h1
    have e2 := sOf_dr (b := tb q.1) (k := q.2) (dr := dr) (dr' := dr') (t := q.1) (fun w hw => hd _ (by omega))
    show q.1 < T + 1 ∧ _
    rw [e1, e2]
    exact ⟨by omega, h2, h3, h4, h5, h6⟩
theorem tB_1 {fs : px_FS} {tq : List Nat} {q t : Nat} (h : t < tq.length) : tB fs (tq ++ [q]) t = tB fs tq t := by
  unfold tB obT
  rw [List.getElem?_append_left h]
theorem tB_2 {fs : px_FS} {tq : List Nat} {q o n : Nat} {b : Nat → Nat} {sk : Bool} (h : obAt fs q = some (o, n, b, sk)) : tB fs (tq ++ [q]) tq.length = b := by
  unfold tB obT
  rw [List.getElem?_append_right (Nat.le_refl _), Nat.sub_self]
  show (((obAt fs q)).getD _).2.2.1 = b
  rw [h]
  rfl
def nmP (fs : px_FS) (s : px_TK) : Prop := ∀ t k, t < s.2.2.1.length → 1 ≤ k → k < oM (tB fs s.2.2.1 t) → yB (tB fs s.2.2.1 t) k ≠ 0 → yT (tB fs s.2.2.1 t) k ∈ txs s.1
def WK (fs : px_FS) (s : px_TK) : Prop := BK fs s ∧ AL (byP s.2.2.1.length (tB fs s.2.2.1) s.2.1.1) s.1.2.1 ∧ nmP fs s ∧ (txs s.1).Nodup ∧ ∀ d, d ∈ s.1.2.2.1 → d < s.1.2.1.length
theorem tks_mem {dr : Nat → Bool} {t : Nat} {b : Nat → Nat} (c k : Nat) (s : px_TS) : (∀ w, w ∈ txs s → w ∈ txs (itr (tk1 dr t b) k c s)) ∧ ∀ i, k ≤ i → i < k + c → yB b i ≠ 0 → yT b i ∈ txs (itr (tk1 dr t b) k c s) :=
  itr_hit (g := tk1 dr t b) (M := fun w s => w ∈ txs s) (v := yT b) (Q := fun i => yB b i ≠ 0) (a := 0) (e := k + c) (fun i s w _ _ hw => by
    rw [tk1_fst]
    split
    · exact hw
    · exact ent_mem.mpr (Or.inr hw)) (fun i s _ _ hq => by
    rw [tk1_fst, if_neg hq]
    exact ent_mem.mpr (Or.inl rfl)) c k s (Nat.zero_le _) (Nat.le_refl _)
theorem tks_nd {dr : Nat → Bool} {t : Nat} {b : Nat → Nat} (c k : Nat) (s : px_TS) (h : (txs s).Nodup) : (txs (itr (tk1 dr t b) k c s)).Nodup :=
  itr_inv (g := tk1 dr t b) (P := fun s => (txs s).Nodup) (a := 0) (e := k + c) (fun i s _ _ hs => by
    show (txs (tk1 dr t b i s)).Nodup
    rw [tk1_fst]
    split
    · exact hs
    · exact ent_nd hs) c k s (Nat.zero_le _) (Nat.le_refl _) h
theorem tks_od {dr : Nat → Bool} {t : Nat} {b : Nat → Nat} (c k : Nat) (s : px_TS) (h : ∀ d, d ∈ s.2.2.1 → d < s.2.1.length) : ∀ d, d ∈ (itr (tk1 dr t b) k c s).2.2.1 → d < (itr (tk1 dr t b) k c s).2.1.length :=
  itr_inv (g := tk1 dr t b) (P := fun s : px_TS => ∀ d, d ∈ s.2.2.1 → d < s.2.1.length) (a := 0) (e := k + c) (fun i s _ _ hs => (tk1_od hs).2) c k s (Nat.zero_le _) (Nat.le_refl _) h
theorem tks_by {T : Nat} {tb : Nat → Nat → Nat} {dr : Nat → Bool} (s : px_TS) (h : AL (byP (T + 1) tb dr) s.2.1) : AL (byP (T + 1) tb dr) (itr (tk1 dr T (tb T)) 1 (oM (tb T) - 1) s).2.1 := by
  by_cases c : oM (tb T) = 0
  · rw [show oM (tb T) - 1 = 0 by omega]; exact h
  · exact itr_inv (g := tk1 dr T (tb T)) (P := fun s : px_TS => AL (byP (T + 1) tb dr) s.2.1) (a := 1) (e := oM (tb T)) (fun i s h1 h2 hs => byP_tk hs h1 h2) (oM (tb T) - 1) 1 s (Nat.le_refl _) (by omega) h
theorem WK_tk {fs : px_FS} {s : px_TK} {q o n : Nat} {b : Nat → Nat} (hk : WK fs s) (hq : obAt fs q = some (o, n, b, false)) (h64 : q < 64) (hn : q ∉ s.2.2.1) (he : eObj b n = 0) : WK fs (tkM b q s) := by
  obtain ⟨k1, k2, k3, k4, k5⟩ := hk
  obtain ⟨w, hy, hg⟩ := eObj_0 he
  have hM := w2_M w
  have hS := w.1.2.1
  refine ⟨BK_tk k1 hq h64 hn (by omega) (by omega) hy, ?_, ?_, ?_, ?_⟩
  · have hl : (tkM b q s).2.2.1 = s.2.2.1 ++ [q] := rfl
    have hl2 : (s.2.2.1 ++ [q]).length = s.2.2.1.length + 1 := by rw [List.length_append]; rfl
    rw [hl, hl2]
    have e2 := tB_2 (tq := s.2.2.1) hq
    have h1 : AL (byP (s.2.2.1.length + 1) (tB fs (s.2.2.1 ++ [q])) (itr (dg1 s.2.2.1.length b) 1 (oS b - 1) s.2.1).1) s.1.2.1 := AL_mono k2 (fun x hx => byP_up hx (fun t ht => tB_1 ht) (fun y hy => dgs_out hg (by omega) (Or.inl hy) s.2.1))
    have h2 := tks_by s.1 h1
    rw [e2] at h2
    exact h2
  · intro t k ht h1 hk hb
    have ht : t < (s.2.2.1 ++ [q]).length := ht
    rw [List.length_append] at ht
    have ht : t < s.2.2.1.length + 1 := ht
    have hk : k < oM (tB fs (s.2.2.1 ++ [q]) t) := hk
    have hb : yB (tB fs (s.2.2.1 ++ [q]) t) k ≠ 0 := hb
    show yT (tB fs (s.2.2.1 ++ [q]) t) k ∈ txs (itr (tk1 (itr (dg1 s.2.2.1.length b) 1 (oS b - 1) s.2.1).1 s.2.2.1.length b) 1 (oM b - 1) s.1)
    have hm := tks_mem (dr := (itr (dg1 s.2.2.1.length b) 1 (oS b - 1) s.2.1).1) (t := s.2.2.1.length) (b := b) (oM b - 1) 1 s.1
    by_cases c : t < s.2.2.1.length
    · rw [tB_1 c] at hk hb ⊢
      exact hm.1 _ (k3 t k c h1 hk hb)
    · have e : t = s.2.2.1.length := by omega
      rw [e, tB_2 hq] at hk hb ⊢
      exact hm.2 k h1 (by omega) hb
  · exact tks_nd (oM b - 1) 1 s.1 k4
  · exact tks_od (oM b - 1) 1 s.1 k5
theorem tf1_cs2 {fs : px_FS} {f k : Nat} {p : px_TK × Bool} : tf1 fs f k p = p ∨ ∃ o n b ca, obAt fs (8 * f + k) = some (o, n, b, false) ∧ 8 * f + k ∉ p.1.2.2.1 ∧ tf1 fs f k p = (tkM b (8 * f + k) (p.1.1, p.1.2.1, p.1.2.2.1, ca), true) := by
  unfold tf1
  split
  · exact Or.inl rfl
  · split
    · exact Or.inl rfl
    · rename_i y ey
      split
      · exact Or.inl rfl
      · rename_i c
        split
        · exact Or.inl rfl
        · refine Or.inr ⟨y.1, y.2.1, y.2.2.1, _, ?_, fun q => c (Or.inr q), rfl⟩
          have : y.2.2.2 = false := by
            cases e : y.2.2.2 with
            | true => exact absurd (Or.inl e) c
            | false => rfl
          rw [ey, ← this]
/-- every member that counts was read -/
def FSo (fs : px_FS) : Prop := ∀ q o n b, obAt fs q = some (o, n, b, false) → q < 64 ∧ eObj b n = 0
theorem RF_FSo {σ : px_S} {fs : px_FS} (h : RF σ fs) : FSo fs := fun q o n b hq => ⟨(RF_ob h hq).1, (RF_ob h hq).2.2.2.2.2.2 rfl⟩
theorem WK_tf1 {fs : px_FS} {f k : Nat} {p : px_TK × Bool} (hf : FSo fs) (h : WK fs p.1) : WK fs (tf1 fs f k p).1 := by
  rcases tf1_cs2 (fs := fs) (f := f) (k := k) (p := p) with e | ⟨o, n, b, ca, h1, h2, e⟩
  · rw [e]; exact h
  · rw [e]
    have h3 : WK fs (p.1.1, p.1.2.1, p.1.2.2.1, ca) := h
    exact WK_tk h3 h1 (hf _ _ _ _ h1).1 h2 (hf _ _ _ _ h1).2
theorem WK_tfL {fs : px_FS} {f c : Nat} {s : px_TK} (hf : FSo fs) (h : WK fs s) : WK fs (tfL fs f c s) := by
  unfold tfL
  refine whl_inv (st := tfS) (g := rdF fs f) (P := WK fs) (fun s hs => ?_) c s h
  unfold rdF
  exact itr_inv (g := tf1 fs f) (P := fun p : px_TK × Bool => WK fs p.1) (a := 0) (e := 8) (fun k p _ _ hp => WK_tf1 hf hp) 8 0 (s, false) (Nat.le_refl _) (Nat.le_refl _) hs
theorem obAt_8 {fs : px_FS} {f : Nat} {x : Nat × (Nat → Nat)} (hx : fs[f]? = some x) (ea : isAr x.2 x.1 = false) : obAt fs (8 * f) = some (8192 * f + 0, x.1, sub x.2 0 x.1, false) := by
  have hl2 : fMem x.2 x.1 = some [(0, x.1, false)] := by unfold fMem; rw [ea, if_neg (by decide)]
  unfold obAt
  rw [show (8 * f) / 8 = f by omega, show (8 * f) % 8 = 0 by omega, hx]
  show (match fMem x.2 x.1 with
    | none => none
    | some l => match l[0]? with
      | none => none
      | some y => some (8192 * f + y.1, y.2.1, sub x.2 y.1 y.2.1, y.2.2)) = _
  rw [hl2]
  rfl
def qLs (f : Nat) (s : px_TK) : Prop := ∀ q, q ∈ s.2.2.1 → q / 8 < f
theorem WK_ta1 {fs : px_FS} {f : Nat} {s : px_TK} (hf : FSo fs) (h : WK fs s) (hq : qLs f s) : WK fs (ta1 fs f s) ∧ qLs (f + 1) (ta1 fs f s) := by
  have hq1 : qLs (f + 1) s := fun q hh => by have := hq q hh; omega
  unfold ta1
  split
  · exact ⟨h, hq1⟩
  · split
    · exact ⟨h, hq1⟩
    · rename_i x hx
      split
      · exact ⟨WK_tfL hf h, tfL_q hq1⟩
      · rename_i ea
        have hob := obAt_8 hx (Bool.eq_false_iff.mpr ea)
        refine ⟨WK_tk h hob (hf _ _ _ _ hob).1 (fun q => by have := hq _ q; omega) (hf _ _ _ _ hob).2, fun q hq2 => ?_⟩
        have hq2 : q ∈ s.2.2.1 ++ [8 * f] := hq2
        rcases List.mem_append.mp hq2 with hq2 | hq2
        · have := hq q hq2; omega
        · rw [List.mem_singleton.mp hq2]; omega
theorem WK_tas {fs : px_FS} (hf : FSo fs) : ∀ (c f : Nat) (s : px_TK), WK fs s → qLs f s → WK fs (itr (ta1 fs) f c s) := by
  intro c
  induction c with
  | zero => intro f s h _; exact h
  | succ c ih =>
    intro f s h hq
    rw [itr_s]
    have h1 := WK_ta1 hf h hq
    exact ih (f + 1) _ h1.1 h1.2
theorem WK_taL {fs : px_FS} {xs : px_NL} {od : List Nat} (hf : FSo fs) (hok : okL xs) (hxl : xs.length ≤ 32) (hol : od.length ≤ 32) (hby : ∀ (i : Nat) (x : List Nat × px_NR), xs[i]? = some x → x.2.2.2.2.1 = none ∧ (x.2.1 = 0 ∨ x.2.1 = 3)) (hnd : (xs.map Prod.fst).Nodup) (hod : ∀ d, d ∈ od → d < xs.length) : WK fs (taL fs xs od) := by
  refine WK_tas hf 8 0 _ ⟨⟨Nat.zero_le _, hok, by show xs.length ≤ 32 + 63 * 0; omega, by show od.length ≤ 32 + 63 * 0; omega, Nat.zero_le _, List.nodup_nil, fun q hq => absurd hq List.not_mem_nil⟩, ?_, ?_, hnd, hod⟩ (fun q hq => absurd hq List.not_mem_nil)
  · intro i x hx
    have := hby i x hx
    unfold byP
    rw [this.1]
    rcases this.2 with e | e
    · exact Or.inl e
    · exact Or.inr (Or.inl e)
  · intro t k ht
    exact absurd ht (Nat.not_lt_zero t)
