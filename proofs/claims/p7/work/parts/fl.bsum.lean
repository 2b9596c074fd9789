/-! sum: class and reference answer alike (steps spelled out by sf/pp.py) -/
/-- the lengths of the kept sections of group g, c of them from the j-th on, added to v -/
def smS (b : Nat → Nat) (g : Int32) (j : Nat) (v : Int64) : Int64 := if oK b j = true ∧ nI (oG b j) = g then v + lN (oZ b j) else v
def smL (b : Nat → Nat) (g : Int32) (d j : Nat) (v : Int64) : Int64 := itr (smS b g) j d v
theorem smL_s {b : Nat → Nat} {g : Int32} {d j : Nat} {v : Int64} : smL b g (d + 1) j v = smL b g d (j + 1) (smS b g j v) := itr_s
theorem smS_t {b : Nat → Nat} {g : Int32} {j : Nat} {v : Int64} (h : oK b j = true ∧ nI (oG b j) = g) : smS b g j v = v + lN (oZ b j) := if_pos h
theorem smS_f {b : Nat → Nat} {g : Int32} {j : Nat} {v : Int64} (h : ¬ (oK b j = true ∧ nI (oG b j) = g)) : smS b g j v = v := if_neg h
/-- the member (i, k) that is asked for -/
def MBR (fs : px_FS) (i k : Int32) (q o n : Nat) (b : Nat → Nat) (z : Bool) : Prop := ∃ i' k', i' < fs.length ∧ k' < 8 ∧ i = nI i' ∧ k = nI k' ∧ q = 8 * i' + k' ∧ obAt fs q = some (o, n, b, z)
theorem nI_n0 {k : Nat} (h : k < 2 ^ 31) : ¬ nI k < 0 := nI_nlt (Nat.zero_le k) h
theorem obAt_z {fs : px_FS} {q o n : Nat} {b : Nat → Nat} {x : Nat × (Nat → Nat)} (hq : obAt fs q = some (o, n, b, true)) (hx : fs[q / 8]? = some x) : isAr x.2 x.1 = true := by
  cases ha : isAr x.2 x.1 with
  | true => rfl
  | false =>
    exfalso
    unfold obAt at hq
    rw [hx] at hq
    dsimp only at hq
    unfold fMem at hq
    rw [if_neg (by rw [ha]; decide)] at hq
    dsimp only at hq
    cases hk : q % 8 with
    | zero =>
      rw [hk] at hq
      have e := (Prod.mk.inj (Prod.mk.inj (Prod.mk.inj (Option.some.inj hq)).2).2).2
      cases e
    | succ k =>
      rw [hk] at hq
      cases hq
theorem mkd_3 {fs : px_FS} {q o n : Nat} {b : Nat → Nat} {x : Nat × (Nat → Nat)} {z : Bool} (hq : obAt fs q = some (o, n, b, z)) (hx : fs[q / 8]? = some x) : (nI (mkd (isAr x.2 x.1) z) = nI 3 ↔ z = true) ∧ ¬ nI (mkd (isAr x.2 x.1) z) = 0 := by
  cases z with
  | true =>
    rw [obAt_z hq hx]
    exact ⟨⟨fun _ => rfl, fun _ => rfl⟩, by decide⟩
  | false =>
    cases isAr x.2 x.1 with
    | true => exact ⟨⟨fun e => absurd e (by decide), fun e => by cases e⟩, by decide⟩
    | false => exact ⟨⟨fun e => absurd e (by decide), fun e => by cases e⟩, by decide⟩
theorem MBR_u {fs : px_FS} (h8 : fs.length ≤ 8) {i k : Int32} {q o n q' o' n' : Nat} {b b' : Nat → Nat} {z z' : Bool} (h : MBR fs i k q o n b z) (h' : MBR fs i k q' o' n' b' z') : q = q' ∧ o = o' ∧ n = n' ∧ b = b' ∧ z = z' := by
  obtain ⟨i1, k1, a1, a2, a3, a4, a5, a6⟩ := h
  obtain ⟨i2, k2, b1, b2, b3, b4, b5, b6⟩ := h'
  have ei : i1 = i2 := (nI_eq (by omega) (by omega)).mp (a3.symm.trans b3)
  have ek : k1 = k2 := (nI_eq (by omega) (by omega)).mp (a4.symm.trans b4)
  have eq : q = q' := by omega
  subst eq
  rw [a6] at b6
  have e1 := Prod.mk.inj (Option.some.inj b6)
  have e2 := Prod.mk.inj e1.2
  have e3 := Prod.mk.inj e2.2
  exact ⟨rfl, e1.1, e2.1, e3.1, e3.2⟩
section BSM
variable {F : Nat} {c : px_CT} {sk : Nat → Nat × Nat × Nat} {L : Nat} {own : Nat → Nat × Nat} {τ : px_TT} {fs : List (Nat × (Nat → Nat))} {gs : List (List Nat × Int64)} {ws : List (List Nat)} {n : Nat} {b : Nat → Nat} {a : Int32} {Y : px_Y} {i k : Int32}
/-- the class's member (i, k) -/
theorem k_memAt (hC : CV sk L own τ fs gs ws n b a Y) : (∃ q o n' b' z, MBR fs i k q o n' b' z ∧ f_H_memberAt F c 0 i k (cH sk L τ) = some (some (10 + 2 * q), cH sk L τ)) ∨ ((∀ q o n' b' z, ¬ MBR fs i k q o n' b' z) ∧ f_H_memberAt F c 0 i k (cH sk L τ) = some (none, cH sk L τ)) := by
  have o0 := G0 hC.1
  have hf := hC.2.2.2.1
  have h8 := hf.2.1
  have e6 : fI τ 0 6 = nI fs.length := hf.1
  unfold f_H_memberAt f_H_memberAt_22 f_H_memberAt_48
  by_cases c1 : i < 0
  · rw [if_pos c1]
    refine Or.inr ⟨fun q o n' b' z ⟨i', k', q1, q2, q3, _⟩ => ?_, rfl⟩
    rw [q3] at c1
    exact nI_n0 (by omega) c1
  · rw [if_neg c1, C0g6 o0, bs, e6]
    obtain ⟨i', hi', rfl⟩ := nI_of c1
    by_cases c2 : nI fs.length ≤ nI i'
    · rw [if_pos c2]
      refine Or.inr ⟨fun q o n' b' z ⟨i2, k2, q1, q2, q3, _⟩ => ?_, rfl⟩
      have e2 : i' = i2 := (nI_eq (by omega) (by omega)).mp q3
      exact nI_ge (by omega) (by omega) c2
    · rw [if_neg c2]
      have hi8 : i' < fs.length := Nat.lt_of_not_le (fun h => c2 (nI_le h hi'))
      by_cases c3 : k < 0
      · rw [if_pos c3]
        refine Or.inr ⟨fun q o n' b' z ⟨i2, k2, q1, q2, q3, q4, _⟩ => ?_, rfl⟩
        rw [q4] at c3
        exact nI_n0 (by omega) c3
      · rw [if_neg c3]
        obtain ⟨k', hk', rfl⟩ := nI_of c3
        by_cases c4 : nI k' < nI 8
        · have hk8 : k' < 8 := Nat.lt_of_not_le (fun h => absurd c4 (nI_nlt h hk'))
          have hq : i' * 8 + k' < 64 := by omega
          have ho := G_of hC.1 hq
          rw [if_pos c4, C0r4 o0 (GR_r (v := 9) hC.2.1 (by decide)), bs, show nI i' * nI 8 = nI (i' * 8) from (Int32.ofNat_mul i' 8).symm, nI_add, c_aN (G9 hC.1) (Or.inl rfl) (by decide) hq, bs, (hC.2.1.2.1 _ hq).2.2.1, bs, C7g4 ho, bs]
          have eqq : i' * 8 + k' = 8 * i' + k' := by omega
          rw [eqq]
          rw [eqq] at hq
          cases hob : obAt fs (8 * i' + k') with
          | none =>
            rw [CF_no hf hob hq, if_pos (show (nI 0 : Int32) = 0 from rfl)]
            refine Or.inr ⟨fun q o n' b' z ⟨i2, k2, q1, q2, q3, q4, q5, q6⟩ => ?_, rfl⟩
            have e2 : i' = i2 := (nI_eq (by omega) (by omega)).mp q3
            have e3 : k' = k2 := (nI_eq (by omega) (by omega)).mp q4
            rw [q5, ← e2, ← e3, hob] at q6
            cases q6
          | some y =>
            obtain ⟨o, n', b', z⟩ := y
            obtain ⟨_, ⟨x, hx, e4⟩, _⟩ := CF_ob hf hob
            rw [e4, if_neg (mkd_3 hob hx).2]
            exact Or.inl ⟨_, o, n', b', z, ⟨i', k', hi8, hk8, rfl, rfl, rfl, hob⟩, rfl⟩
        · rw [if_neg c4]
          refine Or.inr ⟨fun q o n' b' z ⟨i2, k2, q1, q2, q3, q4, _⟩ => ?_, rfl⟩
          have e3 : k' = k2 := (nI_eq (by omega) (by omega)).mp q4
          exact c4 (nI_lt (by omega) (by decide))
/-- the class's object (i, k): no member that is skipped -/
theorem k_objAt (hC : CV sk L own τ fs gs ws n b a Y) : (∃ q o n' b', MBR fs i k q o n' b' false ∧ f_H_objectAt F c 0 i k (cH sk L τ) = some (some (10 + 2 * q), cH sk L τ)) ∨ ((∀ q o n' b', ¬ MBR fs i k q o n' b' false) ∧ f_H_objectAt F c 0 i k (cH sk L τ) = some (none, cH sk L τ)) := by
  have hf := hC.2.2.2.1
  unfold f_H_objectAt f_H_objectAt_19 f_H_objectAt_24
  rcases k_memAt (F := F) (c := c) (i := i) (k := k) hC with ⟨q, o, n', b', z, hM, e⟩ | ⟨hM, e⟩
  · have hob : obAt fs q = some (o, n', b', z) := by
      obtain ⟨_, _, _, _, _, _, _, h⟩ := hM
      exact h
    obtain ⟨h64, ⟨x, hx, e4⟩, _⟩ := CF_ob hf hob
    rw [c_o (G0 hC.1), bs, e, xb_mk]
    dsimp only
    rw [C7g4 (G_of hC.1 h64), bs, e4]
    cases z with
    | true =>
      rw [if_pos ((mkd_3 hob hx).1.mpr rfl)]
      refine Or.inr ⟨fun q2 o2 n2 b2 h2 => ?_, rfl⟩
      have e5 := (MBR_u hf.2.1 hM h2).2.2.2.2
      cases e5
    | false =>
      rw [if_neg (fun h => by have h := (mkd_3 hob hx).1.mp h; cases h)]
      exact Or.inl ⟨q, o, n', b', hM, rfl⟩
  · rw [c_o (G0 hC.1), bs, e, xb_mk]
    exact Or.inr ⟨fun q o n' b' => hM q o n' b' false, rfl⟩
theorem gv_eq {b : Nat → Nat} {g : Int32} {j : Nat} (hg : ¬ g < 0) : gv b j = g ↔ (oK b j = true ∧ nI (oG b j) = g) := by
  unfold gv
  by_cases h : oK b j = true
  · rw [if_pos h]
    exact ⟨fun e => ⟨h, e⟩, fun e => e.2⟩
  · rw [if_neg h]
    exact ⟨fun e => absurd (show Int32.ofInt (-1) < 0 by decide) (by rw [e]; exact hg), fun e => absurd e.1 h⟩
/-- the class's loop -/
theorem k_sum_38 {q gg base n : Nat} {S : Nat → Int32} {g : Int32} (hF : 24 < F) (hD : cD sk L τ q gg base n S) (hg : ¬ g < 0) : ∀ (d j f : Nat) (v : Int64), j + d = oS (cb S base n) → d < f → f_H_sum_38 F c f g (some q) v (nI j) (cH sk L τ) = some (smL (cb S base n) g d j v, cH sk L τ) := by
  have hG := hD.1.1
  have hr := hG.1
  have h24 := hr.2.1.2.2
  have o1 := hr.1.1
  have e8 := hr.2.2.2.2
  intro d
  induction d with
  | zero =>
    intro j f v hj hf
    obtain ⟨f, rfl⟩ : ∃ y, f = y + 1 := ⟨f - 1, by omega⟩
    unfold f_H_sum_38 f_H_sum_78
    rw [bs, C7g8 o1, bs, e8, if_pos (nI_le (by omega) (by omega))]
    rfl
  | succ d ih =>
    intro j f v hj hf
    obtain ⟨f, rfl⟩ : ∃ y, f = y + 1 := ⟨f - 1, by omega⟩
    have hjS : j < oS (cb S base n) := by omega
    unfold f_H_sum_38 f_H_sum_78 f_H_sum_72
    rw [bs, C7g8 o1, bs, e8, if_neg (nI_ge (by omega) (by omega)), c_o o1, bs, nI_l (by omega), k_groupOf hG (by omega), xb_mk, if_pos hjS, nI_add]
    rw [smL_s]
    by_cases cc : gv (cb S base n) j = g
    · rw [if_pos cc, smS_t ((gv_eq hg).mp cc), c_o o1, bs, (cD_sec hD (by omega) hjS).1, xb_mk]
      exact ih _ _ _ (by omega) (by omega)
    · rw [if_neg cc, smS_f (fun h => cc ((gv_eq hg).mpr h))]
      exact ih _ _ _ (by omega) (by omega)
/-- the first section is never kept -/
theorem eObj_K0 {b : Nat → Nat} {n : Nat} (h : eObj b n = 0) : oK b 0 = false := by
  unfold eObj at h
  by_cases c1 : n < 64 ∨ oH b = false
  · rw [if_pos c1] at h; cases h
  · rw [if_neg c1] at h
    by_cases c2 : 1 ≤ oS b ∧ oS b ≤ 24 ∧ oR b + 64 * oS b ≤ n ∧ oT b 0 = 0
    · unfold oK
      rw [c2.2.2.2]
      exact decide_eq_false (fun w => by rcases w.1 with w | w <;> cases w)
    · rw [if_pos c2] at h; cases h
end BSM
section BSR
variable {F m : Nat} {h : px_H} {σ : px_S} {fs : px_FS}
/-- the reference's loop -/
theorem q_sum_120 {g : Int32} {o n : Nat} (hm : m ≤ h.length) (hF : 24 < F) (hB : ∀ k, isB (gA σ 6 k)) (hw : w2 (cb (gA σ 6) o n) n) (hon : o + n ≤ 65536) : ∀ (d j f : Nat) (v : Int64), j + d = oS (cb (gA σ 6) o n) → d < f → f_M_sum_120 F f m g (nI o) v (nI j) (mh m h σ) = some (smL (cb (gA σ 6) o n) g d j v, mh m h σ) := by
  have hb := Mmb hm hB
  have hrk := w1_rk hw.1 hon
  have h24 := hrk.2.2
  have e0 : ∀ v : Int64, v + lN 0 = v := fun v => Int64.add_zero v
  intro d
  induction d with
  | zero =>
    intro j f v hj hf
    obtain ⟨f, rfl⟩ : ∃ y, f = y + 1 := ⟨f - 1, by omega⟩
    unfold f_M_sum_120 f_M_sum_177
    rw [e_o hm, bs, q_sections hb (by omega) hrk.1, xb_mk, if_pos (nI_le (by omega) (by omega))]
    rfl
  | succ d ih =>
    intro j f v hj hf
    obtain ⟨f, rfl⟩ : ∃ y, f = y + 1 := ⟨f - 1, by omega⟩
    have hjS : j < oS (cb (gA σ 6) o n) := by omega
    unfold f_M_sum_120 f_M_sum_177 f_M_sum_167 f_M_sum_168
    rw [e_o hm, bs, q_sections hb (by omega) hrk.1, xb_mk, if_neg (nI_ge (by omega) (by omega)), e_o hm, bs, q_isKept hb (by omega) hrk hjS, xb_mk, nI_add, e0]
    rw [smL_s]
    by_cases c1 : oK (cb (gA σ 6) o n) j = true
    · rw [if_neg (by rw [c1]; decide), e_o hm, bs, q_group hb (by omega) hrk hjS, xb_mk]
      by_cases c2 : nI (oG (cb (gA σ 6) o n) j) = g
      · rw [if_pos c2, smS_t ⟨c1, c2⟩, e_o hm, bs, q_size hb (by omega) hrk hjS, xb_mk]
        exact ih _ _ _ (by omega) (by omega)
      · rw [if_neg c2, smS_f (fun w => c2 w.2)]
        exact ih _ _ _ (by omega) (by omega)
    · have c1' := Bool.eq_false_iff.mpr c1
      rw [if_pos (by rw [c1']; rfl), smS_f (fun w => c1 w.1)]
      exact ih _ _ _ (by omega) (by omega)
/-- the reference's sum -/
theorem q_sum {a1 a2 g : Int32} (hm : m ≤ h.length) (hF : 24 < F) (hr : RF σ fs) : (∀ q o n b, MBR fs a1 a2 q o n b false → ¬ g < 0 → g ≤ nI 5 → f_M_sum F m a1 a2 g (mh m h σ) = some (smL b g (oS b - 1) 1 (lN 0), mh m h (sI σ 0 (nI 0)))) ∧ (((∀ q o n b, ¬ MBR fs a1 a2 q o n b false) ∨ g < 0 ∨ ¬ g ≤ nI 5) → f_M_sum F m a1 a2 g (mh m h σ) = some (lN 0, mh m h (sI σ 0 (nI 1)))) := by
  have h8 := hr.2.1
  have th1 : f_M_throwing F m (nI 1) (nI 0) (mh m h σ) = some (nI 1, mh m h (sI σ 0 (nI 1))) := q_throwing hm true false
  have th0 : f_M_throwing F m (nI 0) (nI 0) (mh m h σ) = some (nI 0, mh m h (sI σ 0 (nI 0))) := q_throwing hm false false
  have bad2 : f_M_sum_92 F m a1 a2 g m (nI 1) (mh m h σ) = some (lN 0, mh m h (sI σ 0 (nI 1))) := by
    unfold f_M_sum_92
    rw [e_o hm, bs, th1, xb_mk, if_neg (by decide)]
  have bad : f_M_sum_47 F m a1 a2 g (nI 1) (mh m h σ) = some (lN 0, mh m h (sI σ 0 (nI 1))) := by
    unfold f_M_sum_47 f_M_sum_87
    rw [if_neg (by decide)]
    exact bad2
  have no : (∀ q o n b, ¬ MBR fs a1 a2 q o n b false) → f_M_sum F m a1 a2 g (mh m h σ) = some (lN 0, mh m h (sI σ 0 (nI 1))) → (∀ q o n b, MBR fs a1 a2 q o n b false → ¬ g < 0 → g ≤ nI 5 → f_M_sum F m a1 a2 g (mh m h σ) = some (smL b g (oS b - 1) 1 (lN 0), mh m h (sI σ 0 (nI 0)))) ∧ (((∀ q o n b, ¬ MBR fs a1 a2 q o n b false) ∨ g < 0 ∨ ¬ g ≤ nI 5) → f_M_sum F m a1 a2 g (mh m h σ) = some (lN 0, mh m h (sI σ 0 (nI 1)))) := fun hM e => ⟨fun q o n b h => absurd h (hM q o n b), fun _ => e⟩
  by_cases c1 : a1 < 0
  · refine no (fun q o n b ⟨i', k', q1, q2, q3, _⟩ => ?_) ?_
    · rw [q3] at c1
      exact nI_n0 (by omega) c1
    · unfold f_M_sum f_M_sum_42
      rw [if_pos c1, bad]
  by_cases c2 : nI fs.length ≤ a1
  · refine no (fun q o n b ⟨i', k', q1, q2, q3, _⟩ => ?_) ?_
    · rw [q3] at c2
      exact nI_ge (by omega) (by omega) c2
    · unfold f_M_sum f_M_sum_42
      rw [if_neg c1, Mg5 hm, bs, hr.1, if_pos c2, bad]
  obtain ⟨i, hi, rfl⟩ := ixG c1 c2 (Nat.le_refl _)
  by_cases c3 : a2 < 0
  · refine no (fun q o n b ⟨i', k', q1, q2, q3, q4, _⟩ => ?_) ?_
    · rw [q4] at c3
      exact nI_n0 (by omega) c3
    · unfold f_M_sum f_M_sum_42
      rw [if_neg c1, Mg5 hm, bs, hr.1, if_neg c2, if_pos c3, bad]
  obtain ⟨x, hx⟩ : ∃ x, fs[i]? = some x := ⟨_, List.getElem?_eq_getElem hi⟩
  obtain ⟨_, _, _, _, l, hl, _⟩ := hr.2.2.2 i x hx
  obtain ⟨y1, y2, y3, _⟩ := RF_row hr hx hl
  obtain ⟨k, hk, rfl⟩ := nI_of c3
  have a8 : xaI (mh m h σ) 1 (m + 5) (nI i) = some (gA σ 8 i) := e_aI (k := 8) hm rfl (show i < 8 by omega)
  have head : f_M_sum F m (nI i) (nI k) g (mh m h σ) = if nI k < nI l.length then f_M_sum_47 F m (nI i) (nI k) g (nI 0) (mh m h σ) else f_M_sum_47 F m (nI i) (nI k) g (nI 1) (mh m h σ) := by
    unfold f_M_sum f_M_sum_38 f_M_sum_42
    rw [if_neg c1, Mg5 hm, bs, hr.1, if_neg c2, if_neg c3, Mr8 hm, bs, if_neg c1, bs, if_pos (Int32.not_le.mp c2), a8, bs, y1]
  by_cases c4 : nI k < nI l.length
  · rw [if_pos c4] at head
    have hkl : k < l.length := Nat.lt_of_not_le (fun w => absurd c4 (nI_nlt w hk))
    have eob := obAt_none hr hx hl (show k < 8 by omega)
    rw [List.getElem?_eq_getElem hkl] at eob
    obtain ⟨o, n, b, sk, hob⟩ : ∃ o n b sk, obAt fs (8 * i + k) = some (o, n, b, sk) := ⟨_, _, _, _, eob⟩
    have hM : MBR fs (nI i) (nI k) (8 * i + k) o n b sk := ⟨i, k, hi, by omega, rfl, rfl, rfl, hob⟩
    obtain ⟨q1, q2, q3, q4, q5, q6, q7⟩ := RF_ob hr hob
    have a12 : xaI (mh m h σ) 3 (m + 9) (nI (8 * i + k)) = some (gA σ 12 (8 * i + k)) := e_aI (k := 12) hm rfl q1
    have head2 : f_M_sum F m (nI i) (nI k) g (mh m h σ) = if bI sk = 0 then (if g < 0 then f_M_sum_87 F m (nI i) (nI k) g m (mh m h σ) else if g ≤ nI 5 then f_M_sum_92 F m (nI i) (nI k) g m (nI 0) (mh m h σ) else f_M_sum_87 F m (nI i) (nI k) g m (mh m h σ)) else f_M_sum_87 F m (nI i) (nI k) g m (mh m h σ) := by
      rw [head]
      unfold f_M_sum_47 f_M_sum_74
      rw [if_pos (show (nI 0 : Int32) = 0 from rfl), Mr12 hm, bs, if_pos (show (nI 0 : Int32) = 0 from rfl), ix8, a12, bs, q4]
    have e87 : f_M_sum_87 F m (nI i) (nI k) g m (mh m h σ) = some (lN 0, mh m h (sI σ 0 (nI 1))) := bad2
    rw [e87] at head2
    cases sk with
    | true =>
      refine no (fun q o n b h2 => ?_) ?_
      · have e5 := (MBR_u h8 hM h2).2.2.2.2
        cases e5
      · rw [head2, if_neg (by decide)]
    | false =>
      rw [if_pos (show bI false = 0 from rfl)] at head2
      by_cases g1 : g < 0
      · rw [if_pos g1] at head2
        exact ⟨fun _ _ _ _ _ h2 _ => absurd g1 h2, fun _ => head2⟩
      · rw [if_neg g1] at head2
        by_cases g2 : g ≤ nI 5
        · rw [if_pos g2] at head2
          refine ⟨fun q' o' n' b' h2 _ _ => ?_, fun w => ?_⟩
          · obtain ⟨_, _, _, e5, _⟩ := MBR_u h8 hM h2
            subst e5
            have he := q7 rfl
            have hw2 : w2 (cb (gA (sI σ 0 (nI 0)) 6) o n) n := by
              rw [show cb (gA (sI σ 0 (nI 0)) 6) o n = b from q5]
              exact (eObj_0 he).1
            have h1S := hw2.1.2.1.1
            have h24S := hw2.1.2.1.2
            have a9 : xaI (mh m h (sI σ 0 (nI 0))) 1 (m + 6) (nI (8 * i + k)) = some (gA (sI σ 0 (nI 0)) 9 (8 * i + k)) := e_aI (k := 9) hm rfl q1
            rw [head2]
            unfold f_M_sum_92
            rw [e_o hm, bs, th0, xb_mk, if_pos (show (nI 0 : Int32) = 0 from rfl), Mr9 hm, bs, ix8, a9, bs, show gA (sI σ 0 (nI 0)) 9 (8 * i + k) = nI o from q2]
            rw [q_sum_120 (σ := sI σ 0 (nI 0)) hm hF hr.2.2.1 hw2 q6 (oS (cb (gA (sI σ 0 (nI 0)) 6) o n) - 1) 1 F _ (by omega) (by omega), show cb (gA (sI σ 0 (nI 0)) 6) o n = b from q5]
          · rcases w with w | w | w
            · exact absurd hM (w _ _ _ _)
            · exact absurd w g1
            · exact absurd g2 w
        · rw [if_neg g2] at head2
          exact ⟨fun _ _ _ _ _ _ h3 => absurd h3 g2, fun _ => head2⟩
  · rw [if_neg c4, bad] at head
    refine no (fun q o n b ⟨i', k', q1, q2, q3, q4, q5, q6⟩ => ?_) head
    have e2 : i = i' := (nI_eq (by omega) (by omega)).mp q3
    have e3 : k = k' := (nI_eq (by omega) (by omega)).mp q4
    have hkl : ¬ k < l.length := fun w => c4 (nI_lt w (by omega))
    have eob := obAt_none hr hx hl (show k < 8 by omega)
    rw [List.getElem?_eq_none (by omega), e2, e3, ← q5, q6] at eob
    cases eob
end BSR
section BSB
variable {F : Nat} {c : px_CT} {sk : Nat → Nat × Nat × Nat} {L : Nat} {own : Nat → Nat × Nat} {τ : px_TT} {σ : px_S} {fs : List (Nat × (Nat → Nat))} {gs : List (List Nat × Int64)} {ws : List (List Nat)} {n : Nat} {b : Nat → Nat} {a : Int32} {Y : px_Y} {k N : Nat}
abbrev RnJ (v w : Int64) (σ : px_S) : Prop := v = w ∧ gI σ 0 = nI 0
theorem smL_0 {b : Nat → Nat} {g : Int32} {t : Nat} {v : Int64} (h : oK b 0 = false) : smL b g (t + 1) 0 v = smL b g t 1 v := by
  rw [smL_s, smS_f (fun w => by rw [h] at w; cases w.1)]
theorem k_Hsum {x y z : Int32} {q o n' : Nat} {b' : Nat → Nat} (hF : 65540 < F) (hC : CV sk L own τ fs gs ws n b a Y) (hM : MBR fs x y q o n' b' false) (e : f_H_objectAt F c 0 x y (cH sk L τ) = some (some (10 + 2 * q), cH sk L τ)) (c1 : ¬ z < 0) (c2 : z ≤ nI 5) : f_H_sum F c 0 x y z (cH sk L τ) = some (smL b' z (oS b' - 1) 1 (lN 0), cH sk L τ) := by
  have hob : obAt fs q = some (o, n', b', false) := by
    obtain ⟨_, _, _, _, _, _, _, h⟩ := hM
    exact h
  obtain ⟨h64, _, e5, _, _, hd⟩ := CF_ob hC.2.2.2.1 hob
  have hD := hd rfl
  have hE : eObj b' n' = 0 := by
    have w := hD.2.2
    rw [e5] at w
    exact w
  have hK0 := eObj_K0 hE
  have hS1 := (eObj_0 hE).1.1.2.1
  have k := k_sum_38 (F := F) (c := c) (g := z) (by omega) hD c1 (oS (cb (eI τ 8) (bsO fs q) n')) 0 F (lN 0) (Nat.zero_add _) (by rw [e5]; omega)
  rw [e5] at k
  generalize oS b' = S at *
  obtain ⟨t, rfl⟩ : ∃ t, S = t + 1 := ⟨S - 1, by omega⟩
  rw [smL_0 hK0] at k
  rw [Nat.add_sub_cancel]
  unfold f_H_sum
  rw [c_o (G0 hC.1), bs, e, xb_mk]
  dsimp only
  rw [if_neg c1, if_pos c2]
  exact k
/-- sum of the class, sum of the reference -/
theorem Bx_sum {x y z : Int32} (hF : 65540 < F) (hC : CV sk L own τ fs gs ws n b a Y) (hR : RV σ fs gs ws n b a Y) (hm : RMk sk L (k + 210)) (hN : n + (fs.map Prod.fst).sum ≤ N) : BT RnJ (fun ci σ => ci = 15 ∧ gI σ 0 = nI 1) sk L τ k N (f_H_sum F c 0 x y z (cH sk L τ)) (g_H_sum F c 0 x y z (cH sk L τ)) (fun h => f_M_sum F 1726 x y z (mh 1726 h σ)) := by
  have bad : g_H_sum F c 0 x y z (cH sk L τ) = some (15, cH sk L τ) → ((∀ q o n b, ¬ MBR fs x y q o n b false) ∨ z < 0 ∨ ¬ z ≤ nI 5) → BT RnJ (fun ci σ => ci = 15 ∧ gI σ 0 = nI 1) sk L τ k N (f_H_sum F c 0 x y z (cH sk L τ)) (g_H_sum F c 0 x y z (cH sk L τ)) (fun h => f_M_sum F 1726 x y z (mh 1726 h σ)) := fun hg hw =>
    ⟨fs, gs, ws, n, b, a, Y, hN, Or.inr ⟨15, τ, own, hg, K26_refl τ, RMk_le hm (by omega), hC, fun h hl => ⟨_, _, (q_sum hl (by omega) hR.2.1).2 hw, RV_0 hR (FR_I _ _ _), rfl, rfl⟩⟩⟩
  rcases k_objAt (F := F) (c := c) (i := x) (k := y) hC with ⟨q, o, n', b', hM, e⟩ | ⟨hM, e⟩
  · by_cases c1 : z < 0
    · refine bad ?_ (Or.inr (Or.inl c1))
      unfold g_H_sum g_H_sum_22
      rw [c_o (G0 hC.1), bs, e, xb_mk]
      dsimp only
      rw [if_pos c1]
    · by_cases c2 : z ≤ nI 5
      · have eC := k_Hsum (F := F) (c := c) hF hC hM e c1 c2
        exact ⟨fs, gs, ws, n, b, a, Y, hN, Or.inl ⟨_, sk, L, τ, own, eC, EX_refl, K26_refl τ, RMk_le hm (by omega), hC, fun h hl => ⟨_, _, (q_sum hl (by omega) hR.2.1).1 q o n' b' hM c1 c2, RV_0 hR (FR_I _ _ _), rfl, rfl⟩⟩⟩
      · refine bad ?_ (Or.inr (Or.inr c2))
        unfold g_H_sum g_H_sum_22
        rw [c_o (G0 hC.1), bs, e, xb_mk]
        dsimp only
        rw [if_neg c1, if_neg c2]
  · refine bad ?_ (Or.inl hM)
    unfold g_H_sum g_H_sum_22
    rw [c_o (G0 hC.1), bs, e, xb_mk]
end BSB
