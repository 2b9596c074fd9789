/-! taken, section, place: class and reference answer alike (steps spelled out by sf/pp.py) -/
section RTK
variable {F m : Nat} {h : px_H} {σ : px_S} {fs : px_FS} {a : Int32} {Y : px_Y}
/-- is there a member (a1, a2), as the reference asks -/
theorem MBR_c {a1 a2 : Int32} (hr : RF σ fs) : ((a1 < 0 ∨ (¬ a1 < 0 ∧ nI fs.length ≤ a1) ∨ (¬ a1 < 0 ∧ ¬ nI fs.length ≤ a1 ∧ a2 < 0)) ∧ ∀ q o n b z, ¬ MBR fs a1 a2 q o n b z) ∨ ∃ i k l, (¬ a1 < 0 ∧ ¬ nI fs.length ≤ a1 ∧ ¬ a2 < 0) ∧ i < fs.length ∧ a1 = nI i ∧ a2 = nI k ∧ k < 2 ^ 31 ∧ gA σ 8 i = nI l ∧ l ≤ 8 ∧ ((k < l ∧ ∃ o n b z, MBR fs a1 a2 (8 * i + k) o n b z) ∨ (l ≤ k ∧ ∀ q o n b z, ¬ MBR fs a1 a2 q o n b z)) := by
  have h8 := hr.2.1
  by_cases c1 : a1 < 0
  · refine Or.inl ⟨Or.inl c1, fun q o n b z ⟨i', k', q1, q2, q3, _⟩ => ?_⟩
    rw [q3] at c1
    exact nI_n0 (by omega) c1
  by_cases c2 : nI fs.length ≤ a1
  · refine Or.inl ⟨Or.inr (Or.inl ⟨c1, c2⟩), fun q o n b z ⟨i', k', q1, q2, q3, _⟩ => ?_⟩
    rw [q3] at c2
    exact nI_ge (by omega) (by omega) c2
  by_cases c3 : a2 < 0
  · refine Or.inl ⟨Or.inr (Or.inr ⟨c1, c2, c3⟩), fun q o n b z ⟨i', k', q1, q2, q3, q4, _⟩ => ?_⟩
    rw [q4] at c3
    exact nI_n0 (by omega) c3
  obtain ⟨i, hi, e1⟩ := ixG c1 c2 (Nat.le_refl _)
  obtain ⟨k, hk, e2⟩ := nI_of c3
  obtain ⟨x, hx⟩ : ∃ x, fs[i]? = some x := ⟨_, List.getElem?_eq_getElem hi⟩
  obtain ⟨_, _, _, _, l, hl, _⟩ := hr.2.2.2 i x hx
  obtain ⟨y1, y2, y3, _⟩ := RF_row hr hx hl
  refine Or.inr ⟨i, k, l.length, ⟨c1, c2, c3⟩, hi, e1, e2, hk, y1, y2, ?_⟩
  rcases Nat.lt_or_ge k l.length with hkl | hkl
  · have eob := obAt_none hr hx hl (show k < 8 by omega)
    rw [List.getElem?_eq_getElem hkl] at eob
    exact Or.inl ⟨hkl, _, _, _, _, i, k, hi, by omega, e1, e2, rfl, eob⟩
  · refine Or.inr ⟨hkl, fun q o n b z ⟨i', k', q1, q2, q3, q4, q5, q6⟩ => ?_⟩
    have e3 : i = i' := (nI_eq (by omega) (by omega)).mp (e1.symm.trans q3)
    have e4 : k = k' := (nI_eq (by omega) (by omega)).mp (e2.symm.trans q4)
    have eob := obAt_none hr hx hl (show k < 8 by omega)
    rw [List.getElem?_eq_none hkl, e3, e4, ← q5, q6] at eob
    cases eob
theorem MBR_q {a1 a2 : Int32} {q o n : Nat} {b : Nat → Nat} {z : Bool} (h8 : fs.length ≤ 8) (hM : MBR fs a1 a2 q o n b z) {i k : Nat} (e1 : a1 = nI i) (e2 : a2 = nI k) (hi : i < 2 ^ 31) (hk : k < 2 ^ 31) : q = 8 * i + k := by
  obtain ⟨i', k', q1, q2, q3, q4, q5, _⟩ := hM
  have e3 : i = i' := (nI_eq hi (by omega)).mp (e1.symm.trans q3)
  have e4 : k = k' := (nI_eq hk (by omega)).mp (e2.symm.trans q4)
  omega
theorem q_taken {a1 a2 : Int32} (hm : m ≤ h.length) (hr : RF σ fs) (hX : RXo σ fs a Y) : (∀ q o n b z, MBR fs a1 a2 q o n b z → f_M_taken F m a1 a2 (mh m h σ) = some (bI (Y.1.1 q), mh m h (sI σ 0 (nI 0)))) ∧ ((∀ q o n b z, ¬ MBR fs a1 a2 q o n b z) → f_M_taken F m a1 a2 (mh m h σ) = some (nI 0, mh m h (sI σ 0 (nI 1)))) := by
  have h8 := hr.2.1
  have th1 : f_M_throwing F m (nI 1) (nI 0) (mh m h σ) = some (nI 1, mh m h (sI σ 0 (nI 1))) := q_throwing hm true false
  have th0 : f_M_throwing F m (nI 0) (nI 0) (mh m h σ) = some (nI 0, mh m h (sI σ 0 (nI 0))) := q_throwing hm false false
  have bad : f_M_taken_27 F m a1 a2 m (mh m h σ) = some (nI 0, mh m h (sI σ 0 (nI 1))) := by
    unfold f_M_taken_27 f_M_taken_32
    rw [e_o hm, bs, th1, xb_mk, if_neg (by decide)]
  rcases MBR_c (a1 := a1) (a2 := a2) hr with ⟨hc, hM⟩ | ⟨i, k, l, ⟨c1, c2, c3⟩, hi, e1, e2, hk, y1, hl8, hw⟩
  · refine ⟨fun q o n b z w => absurd w (hM q o n b z), fun _ => ?_⟩
    unfold f_M_taken
    rcases hc with c1 | ⟨c1, c2⟩ | ⟨c1, c2, c3⟩
    · rw [if_pos c1, bad]
    · rw [if_neg c1, Mg5 hm, bs, hr.1, if_pos c2, bad]
    · rw [if_neg c1, Mg5 hm, bs, hr.1, if_neg c2, if_pos c3, bad]
  · have head : f_M_taken F m a1 a2 (mh m h σ) = if a2 < nI l then f_M_taken_32 F m a1 a2 m (nI 0) (mh m h σ) else f_M_taken_27 F m a1 a2 m (mh m h σ) := by
      unfold f_M_taken
      rw [if_neg c1, Mg5 hm, bs, hr.1, if_neg c2, if_neg c3, Mr8 hm, bs, e1, Ma8 hm (by omega), bs, y1]
    rcases hw with ⟨hkl, o0, n0, b0, z0, hM0⟩ | ⟨hkl, hM⟩
    · refine ⟨fun q o n b z hM => ?_, fun w => absurd hM0 (w _ _ _ _ _)⟩
      have eq := MBR_q h8 hM e1 e2 (by omega) hk
      subst eq
      obtain ⟨⟨_, nms, _, hx⟩, _⟩ := hX
      obtain ⟨x, y, x1, x2, x3, _⟩ := hx (8 * i + k) (by omega)
      rw [show (8 * i + k) / 8 = i by omega] at x1
      rw [head, if_pos (by rw [e2]; exact nI_lt hkl (by omega))]
      unfold f_M_taken_32 f_M_taken_68 f_M_taken_69
      rw [e_o hm, bs, th0, xb_mk, if_pos (show (nI 0 : Int32) = 0 from rfl), Mr19 hm, bs, e1, e2, Ma19 hm (by omega), bs, gA_sI, x1, ← x3]
      cases x with
      | false =>
        rw [if_pos (show bI false = 0 from rfl)]
        exact xz_b false _
      | true =>
        rw [if_neg (show ¬ bI true = 0 by decide), Mr18 hm, bs, ix8, Ma18 hm (by omega), bs, gA_sI, x2]
        cases y with
        | false =>
          rw [if_pos (show bI false = 0 from rfl)]
          exact xz_b false _
        | true =>
          rw [if_neg (show ¬ bI true = 0 by decide)]
          exact xz_b true _
    · refine ⟨fun q o n b z w => absurd w (hM q o n b z), fun _ => ?_⟩
      rw [head, if_neg (by rw [e2]; exact nI_nlt hkl hk), bad]
/-- a section of the layout, as the reference has it -/
theorem q_sec0 {x y : Int32} (hm : m ≤ h.length) (h13 : gI σ 13 = a) (ha : ¬ a = 0) : f_M_section F m x y (mh m h σ) = some (nI 0, mh m h (sI σ 0 (nI 1))) := by
  have t11 : f_M_throwing F m (nI 1) (nI 1) (mh m h σ) = some (nI 1, mh m h (sI σ 0 (nI 1))) := q_throwing hm true true
  have t10 : f_M_throwing F m (nI 1) (nI 0) (mh m h σ) = some (nI 1, mh m h (sI σ 0 (nI 1))) := q_throwing hm true false
  have b1 : ∀ s2, (s2 = nI 0 ∨ s2 = nI 1) → f_M_section_39 F m x y m (nI 1) s2 (mh m h σ) = some (nI 0, mh m h (sI σ 0 (nI 1))) := fun s2 hs => by
    unfold f_M_section_39
    rcases hs with rfl | rfl
    · rw [e_o hm, bs, t10, xb_mk, if_neg (by decide)]
    · rw [e_o hm, bs, t11, xb_mk, if_neg (by decide)]
  have e34 : f_M_section_34 F m x y m (nI 1) (mh m h σ) = some (nI 0, mh m h (sI σ 0 (nI 1))) := b1 _ (Or.inr rfl)
  unfold f_M_section f_M_section_13
  rw [Mg13 hm, bs, h13, if_neg ha, e34, Mg50 hm, bs, b1 _ (Or.inl rfl)]
  repeat' split
  all_goals rfl
theorem q_pla0 {x : Int32} (hm : m ≤ h.length) (h13 : gI σ 13 = a) (ha : ¬ a = 0) : f_M_place F m x (mh m h σ) = some (lN 0, mh m h (sI σ 0 (nI 1))) := by
  have t11 : f_M_throwing F m (nI 1) (nI 1) (mh m h σ) = some (nI 1, mh m h (sI σ 0 (nI 1))) := q_throwing hm true true
  have t10 : f_M_throwing F m (nI 1) (nI 0) (mh m h σ) = some (nI 1, mh m h (sI σ 0 (nI 1))) := q_throwing hm true false
  have b1 : ∀ s2, (s2 = nI 0 ∨ s2 = nI 1) → f_M_place_30 F m x m (nI 1) s2 (mh m h σ) = some (lN 0, mh m h (sI σ 0 (nI 1))) := fun s2 hs => by
    unfold f_M_place_30
    rcases hs with rfl | rfl
    · rw [e_o hm, bs, t10, xb_mk, if_neg (by decide)]
    · rw [e_o hm, bs, t11, xb_mk, if_neg (by decide)]
  have e25 : f_M_place_25 F m x m (nI 1) (mh m h σ) = some (lN 0, mh m h (sI σ 0 (nI 1))) := b1 _ (Or.inr rfl)
  unfold f_M_place f_M_place_13
  rw [Mg13 hm, bs, h13, if_neg ha, e25, Mg50 hm, bs, b1 _ (Or.inl rfl)]
  repeat' split
  all_goals rfl
theorem q_section {x y : Int32} (hm : m ≤ h.length) (h13 : gI σ 13 = a) (hX : RXo σ fs a Y) (hlen : Y.2.2.1.length ≤ 1536) : (¬ a = 0 → f_M_section F m x y (mh m h σ) = some (nI 0, mh m h (sI σ 0 (nI 1)))) ∧ (a = 0 → (x < 0 ∨ nI Y.2.2.1.length ≤ x ∨ y < 0 ∨ ¬ y ≤ nI 4) → f_M_section F m x y (mh m h σ) = some (nI 0, mh m h (sI σ 0 (nI 2)))) ∧ (a = 0 → ∀ (i : Nat) (p : Nat × Nat × Nat × Nat × Nat × Nat), Y.2.2.1[i]? = some p → x = nI i → ∀ w, w ≤ 4 → y = nI w → f_M_section F m x y (mh m h σ) = some (nI (if w = 0 then p.1 else if w = 1 then p.2.1 else if w = 2 then p.2.2.1 else if w = 3 then p.2.2.2.1 else p.2.2.2.2.1), mh m h (sI σ 0 (nI 0)))) := by
  have t11 : f_M_throwing F m (nI 1) (nI 1) (mh m h σ) = some (nI 1, mh m h (sI σ 0 (nI 1))) := q_throwing hm true true
  have t10 : f_M_throwing F m (nI 1) (nI 0) (mh m h σ) = some (nI 1, mh m h (sI σ 0 (nI 1))) := q_throwing hm true false
  have t01 : f_M_throwing F m (nI 0) (nI 1) (mh m h σ) = some (nI 1, mh m h (sI σ 0 (nI 2))) := q_throwing hm false true
  have t00 : f_M_throwing F m (nI 0) (nI 0) (mh m h σ) = some (nI 0, mh m h (sI σ 0 (nI 0))) := q_throwing hm false false
  have b1 : ∀ s2, (s2 = nI 0 ∨ s2 = nI 1) → f_M_section_39 F m x y m (nI 1) s2 (mh m h σ) = some (nI 0, mh m h (sI σ 0 (nI 1))) := fun s2 hs => by
    unfold f_M_section_39
    rcases hs with rfl | rfl
    · rw [e_o hm, bs, t10, xb_mk, if_neg (by decide)]
    · rw [e_o hm, bs, t11, xb_mk, if_neg (by decide)]
  have b2 : f_M_section_39 F m x y m (nI 0) (nI 1) (mh m h σ) = some (nI 0, mh m h (sI σ 0 (nI 2))) := by
    unfold f_M_section_39
    rw [e_o hm, bs, t01, xb_mk, if_neg (by decide)]
  refine ⟨fun ha => ?_, fun ha hb => ?_, fun ha i p hp ex w hw ey => ?_⟩
  · have e34 : f_M_section_34 F m x y m (nI 1) (mh m h σ) = some (nI 0, mh m h (sI σ 0 (nI 1))) := b1 _ (Or.inr rfl)
    unfold f_M_section f_M_section_13
    rw [Mg13 hm, bs, h13, if_neg ha, e34, Mg50 hm, bs, b1 _ (Or.inl rfl)]
    repeat' split
    all_goals rfl
  · have e50 := (hX.2 ha).1.1
    unfold f_M_section f_M_section_13 f_M_section_34
    rw [Mg13 hm, bs, h13, if_pos ha, b2, Mg50 hm, bs, e50]
    by_cases c1 : x < 0
    · rw [if_pos c1]
    · rw [if_neg c1]
      by_cases c2 : nI Y.2.2.1.length ≤ x
      · rw [if_pos c2]
      · rw [if_neg c2]
        by_cases c3 : y < 0
        · rw [if_pos c3]
        · rw [if_neg c3, if_neg (((hb.resolve_left c1).resolve_left c2).resolve_left c3)]
  · have hi : i < Y.2.2.1.length := (List.getElem?_eq_some_iff.mp hp).1
    obtain ⟨⟨e50, e5⟩, _⟩ := hX.2 ha
    obtain ⟨p1, p2, p3, p4, p5, p6⟩ := e5 i p hp
    unfold f_M_section f_M_section_13 f_M_section_39 f_M_section_108
    rw [Mg13 hm, bs, h13, if_pos ha, Mg50 hm, bs, e50, ex, ey, if_neg (nI_n0 (by omega)), if_neg (nI_ge hi (by omega)), if_neg (nI_n0 (by omega)), if_pos (nI_le hw (by decide)), e_o hm, bs, t00, xb_mk, if_pos (show (nI 0 : Int32) = 0 from rfl)]
    have hw' : w = 0 ∨ w = 1 ∨ w = 2 ∨ w = 3 ∨ w = 4 := by omega
    rcases hw' with rfl | rfl | rfl | rfl | rfl
    · rw [if_pos (show (nI 0 : Int32) = 0 from rfl), Mr52 hm, bs, Ma52 hm (by omega), bs, gA_sI, p1]
      rfl
    · rw [if_neg (show ¬ (nI 1 : Int32) = 0 by decide), if_pos rfl, Mr53 hm, bs, Ma53 hm (by omega), bs, gA_sI, p2]
      rfl
    · rw [if_neg (show ¬ (nI 2 : Int32) = 0 by decide), if_neg (show ¬ nI 2 = nI 1 by decide), if_pos rfl, Mr54 hm, bs, Ma54 hm (by omega), bs, gA_sI, p3]
      rfl
    · rw [if_neg (show ¬ (nI 3 : Int32) = 0 by decide), if_neg (show ¬ nI 3 = nI 1 by decide), if_neg (show ¬ nI 3 = nI 2 by decide), if_pos rfl, Mr55 hm, bs, Ma55 hm (by omega), bs, gA_sI, p4]
      rfl
    · rw [if_neg (show ¬ (nI 4 : Int32) = 0 by decide), if_neg (show ¬ nI 4 = nI 1 by decide), if_neg (show ¬ nI 4 = nI 2 by decide), if_neg (show ¬ nI 4 = nI 3 by decide), Mr56 hm, bs, Ma56 hm (by omega), bs, gA_sI, p5]
      rfl
theorem q_place {x : Int32} (hm : m ≤ h.length) (h13 : gI σ 13 = a) (hX : RXo σ fs a Y) (hlen : Y.2.2.1.length ≤ 1536) : (¬ a = 0 → f_M_place F m x (mh m h σ) = some (lN 0, mh m h (sI σ 0 (nI 1)))) ∧ (a = 0 → (x < 0 ∨ ¬ x < nI Y.2.2.1.length) → f_M_place F m x (mh m h σ) = some (lN 0, mh m h (sI σ 0 (nI 2)))) ∧ (a = 0 → ∀ (i : Nat) (p : Nat × Nat × Nat × Nat × Nat × Nat), Y.2.2.1[i]? = some p → x = nI i → f_M_place F m x (mh m h σ) = some (lN p.2.2.2.2.2, mh m h (sI σ 0 (nI 0)))) := by
  have t11 : f_M_throwing F m (nI 1) (nI 1) (mh m h σ) = some (nI 1, mh m h (sI σ 0 (nI 1))) := q_throwing hm true true
  have t10 : f_M_throwing F m (nI 1) (nI 0) (mh m h σ) = some (nI 1, mh m h (sI σ 0 (nI 1))) := q_throwing hm true false
  have t01 : f_M_throwing F m (nI 0) (nI 1) (mh m h σ) = some (nI 1, mh m h (sI σ 0 (nI 2))) := q_throwing hm false true
  have t00 : f_M_throwing F m (nI 0) (nI 0) (mh m h σ) = some (nI 0, mh m h (sI σ 0 (nI 0))) := q_throwing hm false false
  have b1 : ∀ s2, (s2 = nI 0 ∨ s2 = nI 1) → f_M_place_30 F m x m (nI 1) s2 (mh m h σ) = some (lN 0, mh m h (sI σ 0 (nI 1))) := fun s2 hs => by
    unfold f_M_place_30
    rcases hs with rfl | rfl
    · rw [e_o hm, bs, t10, xb_mk, if_neg (by decide)]
    · rw [e_o hm, bs, t11, xb_mk, if_neg (by decide)]
  have b2 : f_M_place_30 F m x m (nI 0) (nI 1) (mh m h σ) = some (lN 0, mh m h (sI σ 0 (nI 2))) := by
    unfold f_M_place_30
    rw [e_o hm, bs, t01, xb_mk, if_neg (by decide)]
  refine ⟨fun ha => ?_, fun ha hb => ?_, fun ha i p hp ex => ?_⟩
  · have e25 : f_M_place_25 F m x m (nI 1) (mh m h σ) = some (lN 0, mh m h (sI σ 0 (nI 1))) := b1 _ (Or.inr rfl)
    unfold f_M_place f_M_place_13
    rw [Mg13 hm, bs, h13, if_neg ha, e25, Mg50 hm, bs, b1 _ (Or.inl rfl)]
    repeat' split
    all_goals rfl
  · have e50 := (hX.2 ha).1.1
    unfold f_M_place f_M_place_13 f_M_place_25
    rw [Mg13 hm, bs, h13, if_pos ha, b2, Mg50 hm, bs, e50]
    by_cases c1 : x < 0
    · rw [if_pos c1]
    · rw [if_neg c1, if_neg (hb.resolve_left c1)]
  · have hi : i < Y.2.2.1.length := (List.getElem?_eq_some_iff.mp hp).1
    obtain ⟨⟨e50, e5⟩, _⟩ := hX.2 ha
    obtain ⟨p1, p2, p3, p4, p5, p6⟩ := e5 i p hp
    unfold f_M_place f_M_place_13 f_M_place_30
    rw [Mg13 hm, bs, h13, if_pos ha, Mg50 hm, bs, e50, ex, if_neg (nI_n0 (by omega)), if_pos (nI_lt hi (by omega)), e_o hm, bs, t00, xb_mk, if_pos (show (nI 0 : Int32) = 0 from rfl), Mr57 hm, bs, Ma57 hm (by omega), bs, gB_sI, p6]
end RTK
section BTK
variable {F : Nat} {c : px_CT} {sk : Nat → Nat × Nat × Nat} {L : Nat} {own : Nat → Nat × Nat} {τ : px_TT} {σ : px_S} {fs : List (Nat × (Nat → Nat))} {gs : List (List Nat × Int64)} {ws : List (List Nat)} {n : Nat} {b : Nat → Nat} {a : Int32} {Y : px_Y} {k N : Nat}
theorem CV_X (hC : CV sk L own τ fs gs ws n b a Y) : CXo sk L τ fs a Y := hC.2.2.2.2.2.2.2.2.1.1
theorem RV_X (hR : RV σ fs gs ws n b a Y) : RXo σ fs a Y := hR.2.2.2.2.2.2.2.1.2.2.2.1
theorem Bx_taken {x y : Int32} (hC : CV sk L own τ fs gs ws n b a Y) (hR : RV σ fs gs ws n b a Y) (hm : RMk sk L (k + 210)) (hN : n + (fs.map Prod.fst).sum ≤ N) : BT RnI (fun ci σ => ci = 15 ∧ gI σ 0 = nI 1) sk L τ k N (f_H_taken F c 0 x y (cH sk L τ)) (g_H_taken F c 0 x y (cH sk L τ)) (fun h => f_M_taken F 1726 x y (mh 1726 h σ)) := by
  rcases k_memAt (F := F) (c := c) (i := x) (k := y) hC with ⟨q, o, n', b', z, hM, e⟩ | ⟨hM, e⟩
  · have hob : obAt fs q = some (o, n', b', z) := by
      obtain ⟨_, _, _, _, _, _, _, h⟩ := hM
      exact h
    have h64 := (CF_ob hC.2.2.2.1 hob).1
    have h15 := ((CV_X hC).1 q h64).1
    have eC : f_H_taken F c 0 x y (cH sk L τ) = some (bI (Y.1.1 q), cH sk L τ) := by
      unfold f_H_taken
      rw [c_o (G0 hC.1), bs, e, xb_mk]
      dsimp only
      rw [C7g15 (G_of hC.1 h64), bs, h15]
      exact xz_b _ _
    exact ⟨fs, gs, ws, n, b, a, Y, hN, Or.inl ⟨_, sk, L, τ, own, eC, EX_refl, K26_refl τ, RMk_le hm (by omega), hC, fun h hl => ⟨_, _, (q_taken hl hR.2.1 (RV_X hR)).1 q o n' b' z hM, RV_0 hR (FR_I _ _ _), rfl, rfl⟩⟩⟩
  · refine ⟨fs, gs, ws, n, b, a, Y, hN, Or.inr ⟨15, τ, own, ?_, K26_refl τ, RMk_le hm (by omega), hC, fun h hl => ⟨_, _, (q_taken hl hR.2.1 (RV_X hR)).2 hM, RV_0 hR (FR_I _ _ _), rfl, rfl⟩⟩⟩
    unfold g_H_taken
    rw [c_o (G0 hC.1), bs, e, xb_mk]
/-- the class's part at a place of the order -/
theorem z_part {i : Nat} {p : Nat × Nat × Nat × Nat × Nat × Nat} (hC : CV sk L own τ fs gs ws n b a Y) (ha : a = 0) (hp : Y.2.2.1[i]? = some p) : ∃ x, x < 1536 ∧ eN τ 1701 i = some (152 + x) ∧ f_Layout_partAt F c 1700 (nI i) (cH sk L τ) = some (some (152 + x), cH sk L τ) ∧ fI τ (152 + x) 1 = nI p.1 ∧ fI τ (152 + x) 2 = nI p.2.1 ∧ fI τ (152 + x) 3 = nI p.2.2.1 ∧ fI τ (152 + x) 4 = nI p.2.2.2.1 ∧ fI τ (152 + x) 5 = nI p.2.2.2.2.1 ∧ fJ τ (152 + x) 11 = lN p.2.2.2.2.2 := by
  obtain ⟨⟨e11, hlen, hps⟩, _⟩ := (CV_X hC).2 ha
  obtain ⟨_, x, x1, x2, x3⟩ := hps i p hp
  obtain ⟨ll, l1, l2, l3⟩ := hC.2.2.2.2.2.2.2.1.2.2.2.1.2
  have el : ll.length = Y.2.2.1.length := (nI_eq (by omega) (by omega)).mp (l3.1.symm.trans e11)
  have hi : i < Y.2.2.1.length := (List.getElem?_eq_some_iff.mp hp).1
  have hx : ll[i]? = some ll[i] := List.getElem?_eq_getElem (by omega)
  have ex := (l3.2 i _ hx).symm.trans x2
  have ex : 152 + ll[i] = 152 + x := Option.some.inj ex
  have ex : ll[i] = x := by omega
  rw [ex] at hx
  exact ⟨x, x1, x2, k_partAt hC.1 hC.2.1 l3 l1 hx, x3⟩
theorem Bx_section {x y : Int32} (hC : CV sk L own τ fs gs ws n b a Y) (hR : RV σ fs gs ws n b a Y) (hm : RMk sk L (k + 210)) (hN : n + (fs.map Prod.fst).sum ≤ N) : BT RnI (fun ci σ => (ci = 14 ∧ gI σ 0 = nI 1) ∨ (ci = 15 ∧ gI σ 0 = nI 2)) sk L τ k N (f_H_section F c 0 x y (cH sk L τ)) (g_H_section F c 0 x y (cH sk L τ)) (fun h => f_M_section F 1726 x y (mh 1726 h σ)) := by
  have o0 := G0 hC.1
  have r11 := C0r11 (τ := τ) o0 (GR_r (v := 147) hC.2.1 (by decide))
  have r13 := C0r13 (τ := τ) o0 (GR_r (v := 1700) hC.2.1 (by decide))
  have g11 := C2g11 (τ := τ) (a := 1700) (GS_o hC.1 (by decide) (by decide))
  have g18 := C3g18 (τ := τ) (G147 hC.1)
  have o17 : ob sk L 2 1700 := GS_o hC.1 (by decide) (by decide)
  have ea : fI τ 147 18 = a := hC.2.2.2.2.2.2.2.2.2.2
  have h13 : gI σ 13 = a := hR.2.2.2.2.2.2.2.2.1
  by_cases c0 : a = 0
  · obtain ⟨⟨e11, hlen, hps⟩, _⟩ := (CV_X hC).2 c0
    have bad : g_H_section F c 0 x y (cH sk L τ) = some (15, cH sk L τ) → (x < 0 ∨ nI Y.2.2.1.length ≤ x ∨ y < 0 ∨ ¬ y ≤ nI 4) → BT RnI (fun ci σ => (ci = 14 ∧ gI σ 0 = nI 1) ∨ (ci = 15 ∧ gI σ 0 = nI 2)) sk L τ k N (f_H_section F c 0 x y (cH sk L τ)) (g_H_section F c 0 x y (cH sk L τ)) (fun h => f_M_section F 1726 x y (mh 1726 h σ)) := fun hg hb =>
      ⟨fs, gs, ws, n, b, a, Y, hN, Or.inr ⟨15, τ, own, hg, K26_refl τ, RMk_le hm (by omega), hC, fun h hl => ⟨_, _, (q_section hl h13 (RV_X hR) hlen).2.1 c0 hb, RV_0 hR (FR_I _ _ _), Or.inr ⟨rfl, rfl⟩⟩⟩⟩
    by_cases c1 : x < 0
    · exact bad (by unfold g_H_section g_H_section_44; rw [r11, bs, g18, bs, ea, if_pos c0, if_pos c1]) (Or.inl c1)
    · by_cases c2 : nI Y.2.2.1.length ≤ x
      · exact bad (by unfold g_H_section g_H_section_44; rw [r11, bs, g18, bs, ea, if_pos c0, if_neg c1, r13, bs, g11, bs, e11, if_pos c2]) (Or.inr (Or.inl c2))
      · by_cases c3 : y < 0
        · exact bad (by unfold g_H_section g_H_section_44; rw [r11, bs, g18, bs, ea, if_pos c0, if_neg c1, r13, bs, g11, bs, e11, if_neg c2, if_pos c3]) (Or.inr (Or.inr (Or.inl c3)))
        · by_cases c4 : y ≤ nI 4
          · obtain ⟨i, hi, ex⟩ := ixG c1 c2 (Nat.le_refl _)
            have hp : Y.2.2.1[i]? = some Y.2.2.1[i] := List.getElem?_eq_getElem hi
            obtain ⟨w, hw, ey⟩ : ∃ w, w ≤ 4 ∧ y = nI w := by
              obtain ⟨w, hw, e⟩ := nI_of c3
              refine ⟨w, ?_, e⟩
              rw [e] at c4
              exact (nI_leI hw (by decide)).mp c4
            obtain ⟨x', x1, _, e6, f1, f2, f3, f4, f5, _⟩ := z_part (F := F) (c := c) hC c0 hp
            have oP := G_part hC.1 x1
            have eC : f_H_section F c 0 x y (cH sk L τ) = some (nI (if w = 0 then Y.2.2.1[i].1 else if w = 1 then Y.2.2.1[i].2.1 else if w = 2 then Y.2.2.1[i].2.2.1 else if w = 3 then Y.2.2.1[i].2.2.2.1 else Y.2.2.1[i].2.2.2.2.1), cH sk L τ) := by
              unfold f_H_section
              rw [r11, bs, g18, bs, ea, if_pos c0, if_neg c1, r13, bs, g11, bs, e11, if_neg c2, if_neg c3, if_pos c4, bs, c_o o17, bs, ex, e6, xb_mk, ey]
              have hw' : w = 0 ∨ w = 1 ∨ w = 2 ∨ w = 3 ∨ w = 4 := by omega
              rcases hw' with rfl | rfl | rfl | rfl | rfl
              · rw [if_pos rfl, bs, C8g1 oP, bs, f1]
                rfl
              · rw [if_neg (show ¬ nI 1 = nI 0 by decide), if_pos rfl, bs, C8g2 oP, bs, f2]
                rfl
              · rw [if_neg (show ¬ nI 2 = nI 0 by decide), if_neg (show ¬ nI 2 = nI 1 by decide), if_pos rfl, bs, C8g3 oP, bs, f3]
                rfl
              · rw [if_neg (show ¬ nI 3 = nI 0 by decide), if_neg (show ¬ nI 3 = nI 1 by decide), if_neg (show ¬ nI 3 = nI 2 by decide), if_pos rfl, bs, C8g4 oP, bs, f4]
                rfl
              · rw [if_neg (show ¬ nI 4 = nI 0 by decide), if_neg (show ¬ nI 4 = nI 1 by decide), if_neg (show ¬ nI 4 = nI 2 by decide), if_neg (show ¬ nI 4 = nI 3 by decide), bs, C8g5 oP, bs, f5]
                rfl
            exact ⟨fs, gs, ws, n, b, a, Y, hN, Or.inl ⟨_, sk, L, τ, own, eC, EX_refl, K26_refl τ, RMk_le hm (by omega), hC, fun h hl => ⟨_, _, (q_section hl h13 (RV_X hR) hlen).2.2 c0 i _ hp ex w hw ey, RV_0 hR (FR_I _ _ _), rfl, rfl⟩⟩⟩
          · exact bad (by unfold g_H_section g_H_section_44; rw [r11, bs, g18, bs, ea, if_pos c0, if_neg c1, r13, bs, g11, bs, e11, if_neg c2, if_neg c3, if_neg c4]) (Or.inr (Or.inr (Or.inr c4)))
  · have w0 : ∀ (h : px_H), 1726 ≤ h.length → f_M_section F 1726 x y (mh 1726 h σ) = some (nI 0, mh 1726 h (sI σ 0 (nI 1))) := fun h hl => q_sec0 hl h13 c0
    exact ⟨fs, gs, ws, n, b, a, Y, hN, Or.inr ⟨14, τ, own, by unfold g_H_section; rw [r11, bs, g18, bs, ea, if_neg c0], K26_refl τ, RMk_le hm (by omega), hC, fun h hl => ⟨_, _, w0 h hl, RV_0 hR (FR_I _ _ _), Or.inl ⟨rfl, rfl⟩⟩⟩⟩
theorem Bx_place {x : Int32} (hC : CV sk L own τ fs gs ws n b a Y) (hR : RV σ fs gs ws n b a Y) (hm : RMk sk L (k + 210)) (hN : n + (fs.map Prod.fst).sum ≤ N) : BT RnJ (fun ci σ => (ci = 14 ∧ gI σ 0 = nI 1) ∨ (ci = 15 ∧ gI σ 0 = nI 2)) sk L τ k N (f_H_place F c 0 x (cH sk L τ)) (g_H_place F c 0 x (cH sk L τ)) (fun h => f_M_place F 1726 x (mh 1726 h σ)) := by
  have o0 := G0 hC.1
  have r11 := C0r11 (τ := τ) o0 (GR_r (v := 147) hC.2.1 (by decide))
  have r13 := C0r13 (τ := τ) o0 (GR_r (v := 1700) hC.2.1 (by decide))
  have g11 := C2g11 (τ := τ) (a := 1700) (GS_o hC.1 (by decide) (by decide))
  have g18 := C3g18 (τ := τ) (G147 hC.1)
  have o17 : ob sk L 2 1700 := GS_o hC.1 (by decide) (by decide)
  have ea : fI τ 147 18 = a := hC.2.2.2.2.2.2.2.2.2.2
  have h13 : gI σ 13 = a := hR.2.2.2.2.2.2.2.2.1
  by_cases c0 : a = 0
  · obtain ⟨⟨e11, hlen, hps⟩, _⟩ := (CV_X hC).2 c0
    have bad : g_H_place F c 0 x (cH sk L τ) = some (15, cH sk L τ) → (x < 0 ∨ ¬ x < nI Y.2.2.1.length) → BT RnJ (fun ci σ => (ci = 14 ∧ gI σ 0 = nI 1) ∨ (ci = 15 ∧ gI σ 0 = nI 2)) sk L τ k N (f_H_place F c 0 x (cH sk L τ)) (g_H_place F c 0 x (cH sk L τ)) (fun h => f_M_place F 1726 x (mh 1726 h σ)) := fun hg hb =>
      ⟨fs, gs, ws, n, b, a, Y, hN, Or.inr ⟨15, τ, own, hg, K26_refl τ, RMk_le hm (by omega), hC, fun h hl => ⟨_, _, (q_place hl h13 (RV_X hR) hlen).2.1 c0 hb, RV_0 hR (FR_I _ _ _), Or.inr ⟨rfl, rfl⟩⟩⟩⟩
    by_cases c1 : x < 0
    · exact bad (by unfold g_H_place g_H_place_35; rw [r11, bs, g18, bs, ea, if_pos c0, if_pos c1]) (Or.inl c1)
    · by_cases c2 : x < nI Y.2.2.1.length
      · obtain ⟨i, hi, ex⟩ := ixG (n := Y.2.2.1.length) c1 (Int32.not_le.mpr c2) (Nat.le_refl _)
        have hp : Y.2.2.1[i]? = some Y.2.2.1[i] := List.getElem?_eq_getElem hi
        obtain ⟨x', x1, _, e6, _, _, _, _, _, f6⟩ := z_part (F := F) (c := c) hC c0 hp
        have oP := G_part hC.1 x1
        have eC : f_H_place F c 0 x (cH sk L τ) = some (lN Y.2.2.1[i].2.2.2.2.2, cH sk L τ) := by
          unfold f_H_place
          rw [r11, bs, g18, bs, ea, if_pos c0, if_neg c1, r13, bs, g11, bs, e11, if_pos c2, bs, c_o o17, bs, ex, e6, xb_mk, bs, C8g11 oP, bs, f6]
        exact ⟨fs, gs, ws, n, b, a, Y, hN, Or.inl ⟨_, sk, L, τ, own, eC, EX_refl, K26_refl τ, RMk_le hm (by omega), hC, fun h hl => ⟨_, _, (q_place hl h13 (RV_X hR) hlen).2.2 c0 i _ hp ex, RV_0 hR (FR_I _ _ _), rfl, rfl⟩⟩⟩
      · exact bad (by unfold g_H_place g_H_place_35; rw [r11, bs, g18, bs, ea, if_pos c0, if_neg c1, r13, bs, g11, bs, e11, if_neg c2]) (Or.inr c2)
  · have w0 : ∀ (h : px_H), 1726 ≤ h.length → f_M_place F 1726 x (mh 1726 h σ) = some (lN 0, mh 1726 h (sI σ 0 (nI 1))) := fun h hl => q_pla0 hl h13 c0
    exact ⟨fs, gs, ws, n, b, a, Y, hN, Or.inr ⟨14, τ, own, by unfold g_H_place; rw [r11, bs, g18, bs, ea, if_neg c0], K26_refl τ, RMk_le hm (by omega), hC, fun h hl => ⟨_, _, w0 h hl, RV_0 hR (FR_I _ _ _), Or.inl ⟨rfl, rfl⟩⟩⟩⟩
end BTK
