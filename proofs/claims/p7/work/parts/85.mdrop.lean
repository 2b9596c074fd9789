/-! dropGroups of the reference -/
/-- what is known of the groups of an object that was read -/
def GP (b : Nat → Nat) (n : Nat) : Prop := ∀ i, 1 ≤ i → i < oS b → oT b i = 17 → (1 ≤ oZ b i ∧ oZ b i % 4 = 0 ∧ oI b i < oM b ∧ yG b (oI b i) = true) ∧ oP b i + oZ b i ≤ n ∧ ∀ j, 1 ≤ j → j < oZ b i / 4 → gN b i j < 24
/-- the sections of a group, from its j-th number on, c of them, are dropped -/
def mkD (t : Nat) (b : Nat → Nat) (i : Nat) : Nat → Nat → (Nat → Bool) → Nat → Bool
  | _, 0, dr => dr
  | j, c + 1, dr => mkD t b i (j + 1) c (fun x => if x = 24 * t + gN b i j then true else dr x)
/-- one section: (dropped sections, dropped groups, signatures) -/
def dg1 (t : Nat) (b : Nat → Nat) (i : Nat) (s : (Nat → Bool) × Nat × List (List Nat)) : (Nat → Bool) × Nat × List (List Nat) :=
  if oT b i = 17 ∧ gN b i 0 = 1 then (if (idx (yT b (oI b i)) 0 s.2.2).isSome = true then (mkD t b i 1 (oZ b i / 4 - 1) s.1, s.2.1 + 1, s.2.2) else (s.1, s.2.1, s.2.2 ++ [yT b (oI b i)])) else s
/-- g, c times over, from i on -/
def itr {α : Type} (g : Nat → α → α) : Nat → Nat → α → α
  | _, 0, s => s
  | i, c + 1, s => itr g (i + 1) c (g i s)
theorem itr_0 {α : Type} {g : Nat → α → α} {i : Nat} {s : α} : itr g i 0 s = s := rfl
theorem itr_s {α : Type} {g : Nat → α → α} {i c : Nat} {s : α} : itr g i (c + 1) s = itr g (i + 1) c (g i s) := rfl
/-- only dropped sections and signatures have changed -/
def frR (σ σ' : px_S) : Prop := (∀ k, k ≠ 69 → k ≠ 70 → gI σ' k = gI σ k) ∧ (∀ k, gJ σ' k = gJ σ k) ∧ (∀ k, k ≠ 65 → k ≠ 71 → k ≠ 72 → gA σ' k = gA σ k) ∧ (∀ k, gB σ' k = gB σ k)
theorem frR_refl (σ : px_S) : frR σ σ := ⟨fun _ _ _ => rfl, fun _ => rfl, fun _ _ _ _ => rfl, fun _ => rfl⟩
theorem frR_trans {σ σ1 σ2 : px_S} (h : frR σ σ1) (g : frR σ1 σ2) : frR σ σ2 := ⟨fun k a b => (g.1 k a b).trans (h.1 k a b), fun k => (g.2.1 k).trans (h.2.1 k), fun k a1 a2 a3 => (g.2.2.1 k a1 a2 a3).trans (h.2.2.1 k a1 a2 a3), fun k => (g.2.2.2 k).trans (h.2.2.2 k)⟩
theorem frR_S {σ σ' : px_S} (h : frS σ σ') : frR σ σ' := ⟨fun k _ a => h.1 k a, h.2.1, fun k _ a b => h.2.2.1 k a b, h.2.2.2⟩
theorem RSg_eq {σ σ' : px_S} {sg : List (List Nat)} (h : RSg σ sg) (h70 : gI σ' 70 = gI σ 70) (h71 : gA σ' 71 = gA σ 71) (h72 : gA σ' 72 = gA σ 72) (h6 : gA σ' 6 = gA σ 6) : RSg σ' sg := by
  unfold RSg at h ⊢
  rw [h70, h71, h72, h6]; exact h
section MDR
variable {F m o n t : Nat} {h : px_H} {k8 : Nat → Int32 → Int32 → Int32 → px_H → Option (Unit × px_H)}
theorem q_dG_63 {i : Nat} {b : Nat → Nat} (hm : m ≤ h.length) (hF : 24 < F) (ht : t < 64) (hw : w1 b n) (hn : o + n ≤ 65536) (hi : i < oS b) (hP : oP b i + oZ b i ≤ n) (hg : ∀ j, 1 ≤ j → j < oZ b i / 4 → gN b i j < 24) : ∀ (c j f : Nat) (σ : px_S) (dr : Nat → Bool), (∀ k, isB (gA σ 6 k)) → cb (gA σ 6) o n = b → 1 ≤ j → c = oZ b i / 4 - j → j ≤ oZ b i / 4 → c < f → RDr σ dr → ∃ σ', f_M_dropGroups_63 F k8 f m (nI t) (nI o) (nI i) (nI j) (mh m h σ) = k8 m (nI t) (nI o) (nI (i + 1)) (mh m h σ') ∧ RDr σ' (mkD t b i j c dr) ∧ (∀ k, gI σ' k = gI σ k) ∧ (∀ k, gJ σ' k = gJ σ k) ∧ (∀ k, k ≠ 65 → gA σ' k = gA σ k) ∧ (∀ k, gB σ' k = gB σ k) := by
  intro c
  induction c with
  | zero =>
    intro j f σ dr hB hcb h1 hc hj hf hd
    obtain ⟨f, rfl⟩ : ∃ x, f = x + 1 := ⟨f - 1, by omega⟩
    have hrk : rk (gA σ 6) o n := w1_rk (by rw [hcb]; exact hw) hn
    refine ⟨σ, ?_, hd, fun _ => rfl, fun _ => rfl, fun _ _ => rfl, fun _ => rfl⟩
    unfold f_M_dropGroups_63 f_M_dropGroups_106
    rw [e_o hm, bs, q_size (Mmb hm hB) (by omega) hrk (by rw [hcb]; exact hi), xb_mk, hcb]
    generalize oZ b i = Z at *
    rw [show (4 : Int64) = lN 4 from rfl, pk_lDiv (by omega) (by decide) (by decide), nI_l (by omega), if_pos ((pk_lLE (by omega) (by omega)).mpr (by omega)), nI_add]
  | succ c ih =>
    intro j f σ dr hB hcb h1 hc hj hf hd
    obtain ⟨f, rfl⟩ : ∃ x, f = x + 1 := ⟨f - 1, by omega⟩
    have hrk : rk (gA σ 6) o n := w1_rk (by rw [hcb]; exact hw) hn
    have hgj := hg j h1 (by omega)
    obtain ⟨σ1, hσ1⟩ : ∃ x, x = sA σ 65 (upd (gA σ 65) (24 * t + gN b i j) (nI 1)) := ⟨_, rfl⟩
    have g65 : gA σ1 65 = upd (gA σ 65) (24 * t + gN b i j) (nI 1) := by rw [hσ1, gA_sA, if_pos rfl]
    have gAo : ∀ q, q ≠ 65 → gA σ1 q = gA σ q := fun q hq => by rw [hσ1, gA_sA, if_neg hq]
    have hd1 : RDr σ1 (fun x => if x = 24 * t + gN b i j then true else dr x) := by
      intro x hx
      show gA σ1 65 x = bI (if x = 24 * t + gN b i j then true else dr x)
      rw [g65]
      by_cases e : x = 24 * t + gN b i j
      · rw [e, upd_eq, if_pos rfl]; rfl
      · rw [upd_ne e, if_neg e]; exact hd x hx
    obtain ⟨σ', i1, i2, i3, i4, i5, i6⟩ := ih (j + 1) f σ1 _ (by rw [gAo 6 (by decide)]; exact hB) (by rw [gAo 6 (by decide)]; exact hcb) (by omega) (by omega) (by omega) (by omega) hd1
    refine ⟨σ', ?_, i2, fun q => by rw [i3, hσ1]; rfl, fun q => by rw [i4, hσ1]; rfl, fun q hq => (i5 q hq).trans (gAo q hq), fun q => by rw [i6, hσ1]; rfl⟩
    have hgn := q_groupNumber (F := F) (h := mh m h σ) (m := m) (i := i) (j := j) (Mmb hm hB) (by omega) hrk (by rw [hcb]; exact hi) (by rw [hcb]; omega)
    unfold f_M_dropGroups_63
    rw [e_o hm, bs, q_size (Mmb hm hB) (by omega) hrk (by rw [hcb]; exact hi), xb_mk, hcb, e_o hm, hgn, hcb]
    generalize oZ b i = Z at *
    generalize gN b i j = G at *
    rw [show (4 : Int64) = lN 4 from rfl, pk_lDiv (by omega) (by decide) (by decide), nI_l (by omega), if_neg (fun q => absurd ((pk_lLE (by omega) (by omega)).mp q) (by omega)), Mr65 hm, bs, bs, xb_mk, lN_i, pk_mul, nI_add, show nI 1 &&& 1 = nI 1 from rfl, Ms65 hm (by omega), bs, ← hσ1, nI_add]
    exact i1
theorem q_dG_8 {b : Nat → Nat} (hm : m ≤ h.length) (hF : 65536 < F) (ht : t < 64) (hw : w2 b n) (hn : o + n ≤ 65536) (hg : GP b n) : ∀ (c i f : Nat) (σ : px_S) (s : (Nat → Bool) × Nat × List (List Nat)), (∀ k, isB (gA σ 6 k)) → cb (gA σ 6) o n = b → 1 ≤ i → i + c = oS b → c < f → RDr σ s.1 → gI σ 69 = nI s.2.1 → RSg σ s.2.2 → s.2.2.length + c ≤ 1536 → ∃ σ', f_M_dropGroups_8 F f m (nI t) (nI o) (nI i) (mh m h σ) = some ((), mh m h σ') ∧ RDr σ' (itr (dg1 t b) i c s).1 ∧ gI σ' 69 = nI (itr (dg1 t b) i c s).2.1 ∧ RSg σ' (itr (dg1 t b) i c s).2.2 ∧ frR σ σ' := by
  have hs24 : oS b ≤ 24 := hw.1.2.1.2
  intro c
  induction c with
  | zero =>
    intro i f σ s hB hcb h1 hc hf hd h69 hsg hl
    obtain ⟨f, rfl⟩ : ∃ x, f = x + 1 := ⟨f - 1, by omega⟩
    have hrk : rk (gA σ 6) o n := w1_rk (by rw [hcb]; exact hw.1) hn
    rw [itr_0]
    refine ⟨σ, ?_, hd, h69, hsg, frR_refl σ⟩
    unfold f_M_dropGroups_8 f_M_dropGroups_112
    rw [e_o hm, bs, q_sections (Mmb hm hB) (by omega) hrk.1, xb_mk, hcb, if_pos (nI_le (by omega) (by omega))]
  | succ c ih =>
    intro i f σ s hB hcb h1 hc hf hd h69 hsg hl
    obtain ⟨f, rfl⟩ : ∃ x, f = x + 1 := ⟨f - 1, by omega⟩
    have hrk : rk (gA σ 6) o n := w1_rk (by rw [hcb]; exact hw.1) hn
    have hi : i < oS b := by omega
    have step : ∀ σ1 s1, frR σ σ1 → RDr σ1 s1.1 → gI σ1 69 = nI s1.2.1 → RSg σ1 s1.2.2 → s1.2.2.length ≤ s.2.2.length + 1 → dg1 t b i s = s1 → ∃ σ', f_M_dropGroups_8 F f m (nI t) (nI o) (nI (i + 1)) (mh m h σ1) = some ((), mh m h σ') ∧ RDr σ' (itr (dg1 t b) i (c + 1) s).1 ∧ gI σ' 69 = nI (itr (dg1 t b) i (c + 1) s).2.1 ∧ RSg σ' (itr (dg1 t b) i (c + 1) s).2.2 ∧ frR σ σ' := by
      intro σ1 s1 a1 a2 a3 a4 a5 a6
      have g6 : gA σ1 6 = gA σ 6 := a1.2.2.1 6 (by decide) (by decide) (by decide)
      obtain ⟨σ', j1, j2, j3, j4, j5⟩ := ih (i + 1) f σ1 s1 (by rw [g6]; exact hB) (by rw [g6]; exact hcb) (by omega) (by omega) (by omega) a2 a3 a4 (by omega)
      rw [itr_s, a6]
      exact ⟨σ', j1, j2, j3, j4, frR_trans a1 j5⟩
    unfold f_M_dropGroups_8 f_M_dropGroups_106
    rw [e_o hm, bs, q_sections (Mmb hm hB) (by omega) hrk.1, xb_mk, hcb, if_neg (nI_ge (by omega) (by omega)), e_o hm, bs, q_isGroup (Mmb hm hB) (by omega) hrk (by rw [hcb]; exact hi), xb_mk, hcb, nI_add]
    by_cases c1 : oT b i = 17
    · obtain ⟨⟨z1, z2, z3, z4⟩, z5, z6⟩ := hg i h1 hi c1
      have hgn := q_groupNumber (F := F) (h := mh m h σ) (m := m) (i := i) (j := 0) (Mmb hm hB) (by omega) hrk (by rw [hcb]; exact hi) (by rw [hcb]; omega)
      have hg0 : gN b i 0 < 2 ^ 32 := by
        have := le_lt (cb_lt (gA σ 6) o n) (oP b i + 4 * 0) 4
        rw [hcb] at this
        exact this
      rw [decide_eq_true c1, if_neg (show ¬ bI true = 0 by decide), e_o hm, bs, hgn, xb_mk, hcb]
      by_cases c2 : gN b i 0 = 1
      · rw [if_pos (by rw [c2])]
        obtain ⟨σ1, e1, e2, e3⟩ := q_isAgain (F := F) (sg := s.2.2) (o := o) (n := n) (i := i) hm (by omega) hB (by rw [hcb]; exact hw) hn (by rw [hcb]; exact hi) (by rw [hcb]; exact z3) (by rw [hcb]; exact z4) hsg (by omega)
        rw [hcb] at e1 e2
        rw [e_o hm, bs, e1, xb_mk]
        have f1 := frR_S e3
        have d1 : RDr σ1 s.1 := by
          intro x hx
          rw [e3.2.2.1 65 (by decide) (by decide)]; exact hd x hx
        have i69 : gI σ1 69 = nI s.2.1 := (e3.1 69 (by decide)).trans h69
        unfold ent at e2
        by_cases c3 : (idx (yT b (oI b i)) 0 s.2.2).isSome = true
        · rw [if_pos c3] at e2
          rw [c3, if_neg (show ¬ bI true = 0 by decide), Mg69 hm, bs, i69, nI_add, Mp69 hm, bs]
          obtain ⟨σ2, hσ2⟩ : ∃ x, x = sI σ1 69 (nI (s.2.1 + 1)) := ⟨_, rfl⟩
          rw [← hσ2]
          have g6 : gA σ2 6 = gA σ 6 := by rw [hσ2, gA_sI]; exact f1.2.2.1 6 (by decide) (by decide) (by decide)
          obtain ⟨σ3, k1, k2, k3, k4, k5, k6⟩ := q_dG_63 (F := F) (k8 := f_M_dropGroups_8 F f) (σ := σ2) (dr := s.1) (j := 1) (f := F) (c := oZ b i / 4 - 1) hm (by omega) ht hw.1 hn hi z5 z6 (by rw [g6]; exact hB) (by rw [g6]; exact hcb) (by omega) rfl (by omega) (by omega) (by rw [hσ2]; exact d1)
          rw [k1]
          have hd1 : dg1 t b i s = (mkD t b i 1 (oZ b i / 4 - 1) s.1, s.2.1 + 1, s.2.2) := by unfold dg1; rw [if_pos ⟨c1, c2⟩, if_pos c3]
          generalize mkD t b i 1 (oZ b i / 4 - 1) s.1 = D at k2 hd1
          refine step σ3 (D, s.2.1 + 1, s.2.2) ?_ k2 ?_ ?_ (Nat.le_succ _) hd1
          · refine frR_trans f1 ⟨fun q a b => ?_, fun q => ?_, fun q a b c => ?_, fun q => ?_⟩
            · rw [k3, hσ2, gI_sI, if_neg a]
            · rw [k4, hσ2]; rfl
            · rw [k5 q a, hσ2, gA_sI]
            · rw [k6, hσ2]; rfl
          · rw [k3, hσ2, gI_sI, if_pos rfl]
          · exact RSg_eq e2 (by rw [k3, hσ2, gI_sI, if_neg (by decide)]) (by rw [k5 71 (by decide), hσ2, gA_sI]) (by rw [k5 72 (by decide), hσ2, gA_sI]) (by rw [k5 6 (by decide), hσ2, gA_sI])
        · rw [if_neg c3] at e2
          rw [Bool.eq_false_iff.mpr c3, if_pos (show bI false = 0 from rfl)]
          have hd1 : dg1 t b i s = (s.1, s.2.1, s.2.2 ++ [yT b (oI b i)]) := by unfold dg1; rw [if_pos ⟨c1, c2⟩, if_neg c3]
          generalize yT b (oI b i) = Y at e2 hd1
          obtain ⟨sg', hsg'⟩ : ∃ x, x = s.2.2 ++ [Y] := ⟨_, rfl⟩
          rw [← hsg'] at e2 hd1
          exact step σ1 (s.1, s.2.1, sg') f1 d1 i69 e2 (by show sg'.length ≤ _; rw [hsg', List.length_append]; exact Nat.le_refl _) hd1
      · rw [if_neg (fun q => c2 ((lEQ (by omega) (by decide)).mp q))]
        exact step σ s (frR_refl σ) hd h69 hsg (by omega) (by unfold dg1; rw [if_neg (fun q => c2 q.2)])
    · rw [decide_eq_false c1, if_pos (show bI false = 0 from rfl)]
      exact step σ s (frR_refl σ) hd h69 hsg (by omega) (by unfold dg1; rw [if_neg (fun q => c1 q.1)])
end MDR
