section
/-! the reference's errors of groups, and of an object -/
theorem Mmb {m : Nat} {h : px_H} {σ : px_S} (hm : m ≤ h.length) (hB : ∀ k, isB (gA σ 6 k)) : mb (mh m h σ) m (gA σ 6) := ⟨_, _, e_o hm, Mr6 hm, e_A (k := 6) hm rfl, hB⟩
theorem z_and (c : Bool) : bI c &&& 1 = bI c := by cases c <;> decide
theorem z_0 : nI 0 &&& 1 = bI false := by decide
theorem z_1 : nI 1 &&& 1 = bI true := by decide
/-- the number j of a group -/
def gN (b : Nat → Nat) (i j : Nat) : Nat := le b (oP b i + 4 * j) 4
/-- its numbers from j on, c of them: none is another section's, or was in a group before -/
def gl (b : Nat → Nat) (i : Nat) : Nat → Nat → (Nat → Bool) → Bool × (Nat → Bool)
  | _, 0, q => (true, q)
  | j, c + 1, q => if gN b i j < 1 ∨ oS b ≤ gN b i j ∨ q (gN b i j) = true then (false, q) else gl b i (j + 1) c (fun x => if x = gN b i j then true else q x)
theorem gl_s (b : Nat → Nat) (i j c : Nat) (q : Nat → Bool) : gl b i j (c + 1) q = if gN b i j < 1 ∨ oS b ≤ gN b i j ∨ q (gN b i j) = true then (false, q) else gl b i (j + 1) c (fun x => if x = gN b i j then true else q x) := rfl
def gH (b : Nat → Nat) (i : Nat) : Bool := decide (1 ≤ oZ b i ∧ oZ b i % 4 = 0 ∧ oY b ≠ 0 ∧ oL b i = oY b ∧ 1 ≤ oI b i ∧ oI b i < oM b ∧ yB b (oI b i) ≠ 0 ∧ gN b i 0 ≤ 1)
/-- all groups from section i on, c sections -/
def gs (b : Nat → Nat) : Nat → Nat → (Nat → Bool) → Bool
  | _, 0, _ => true
  | i, c + 1, q => if oT b i = 17 then (if gH b i = true then (if (gl b i 1 (oZ b i / 4 - 1) q).1 = true then gs b (i + 1) c (gl b i 1 (oZ b i / 4 - 1) q).2 else false) else false) else gs b (i + 1) c q
theorem gs_s (b : Nat → Nat) (i c : Nat) (q : Nat → Bool) : gs b i (c + 1) q = if oT b i = 17 then (if gH b i = true then (if (gl b i 1 (oZ b i / 4 - 1) q).1 = true then gs b (i + 1) c (gl b i 1 (oZ b i / 4 - 1) q).2 else false) else false) else gs b (i + 1) c q := rfl
def eGrp (b : Nat → Nat) : Nat := if gs b 1 (oS b - 1) (fun _ => false) = true then 0 else 9
section GRP
variable {F : Nat} {h : px_H} {m o n : Nat} {B : Nat → Int32} {σ : px_S}
theorem q_isGroup {i : Nat} (hb : mb h m B) (hF : 8 < F) (ho : rk B o n) (hi : i < oS (cb B o n)) : f_M_isGroup F m (nI o) (nI i) h = some (bI (decide (oT (cb B o n) i = 17)), h) := by
  obtain ⟨fs, h1⟩ := mb_o hb
  have e1 := oT_lt (cb_lt B o n) i
  simp only [f_M_isGroup, f_M_isGroup_18, h1, bs, xb_mk, q_type hb hF ho hi, lk, lEQ (show oT (cb B o n) i < 2 ^ 64 by omega) (show 17 < 2 ^ 64 by decide), xz_0, xz_1]
  by_cases c : oT (cb B o n) i = 17
  · rw [if_pos c, decide_eq_true c]
  · rw [if_neg c, decide_eq_false c]
theorem ar_g {n P Z j : Nat} (h1 : P + Z ≤ n) (hj : j < Z / 4) : P + 4 * j + 4 ≤ n := by omega
theorem q_groupNumber {i j : Nat} (hb : mb h m B) (hF : 8 < F) (ho : rk B o n) (hi : i < oS (cb B o n)) (hp : oP (cb B o n) i + 4 * j + 4 ≤ n) : f_M_groupNumber F m (nI o) (nI i) (nI j) h = some (lN (gN (cb B o n) i j), h) := by
  obtain ⟨fs, h1⟩ := mb_o hb
  unfold f_M_groupNumber
  rw [h1, bs, q_beginning hb hF ho hi, xb_mk, h1, bs, lN_i, pk_mul, nI_add, nI_add, Nat.add_assoc, q_numo hb hF (by decide) ho.1.2 hp, xb_mk]
  rfl
theorem gN_lt {b : Nat → Nat} (hb : ∀ k, b k < 256) (i j : Nat) : gN b i j < 4294967296 := le_lt hb _ 4
theorem q_isGroupRight_119 {i : Nat} (hF : 8 < F) (hw : w2 (cb B o n) n) (hn : o + n ≤ 65536) (hi : i < oS (cb B o n)) (ht : oT (cb B o n) i = 17) : ∀ (c j f : Nat) (σ : px_S) (q : Nat → Bool), m ≤ h.length → (∀ k, isB (gA σ 6 k)) → gA σ 6 = B → (∀ v, v < 24 → gA σ 96 v = bI (q v)) → c = oZ (cb B o n) i / 4 - j → c < f → j ≤ 65536 → ∃ g, (∀ v, v < 24 → g v = bI ((gl (cb B o n) i j c q).2 v)) ∧ f_M_isGroupRight_119 F f m (nI o) (nI i) (nI j) (mh m h σ) = some (bI (gl (cb B o n) i j c q).1, mh m h (sA σ 96 g)) := by
  have ho := w1_rk hw.1 hn
  have hs := hw.1.2.1.2
  have hZ := hw.1.2.2.2.1 i hi (by rw [ht]; decide) (by rw [ht]; decide)
  have hZ63 : oZ (cb B o n) i ≤ 65536 := by
    generalize oZ (cb B o n) i = z at *
    generalize oP (cb B o n) i = y at *
    omega
  intro c
  induction c with
  | zero =>
    intro j f σ q hm hB he hq hc hf hj
    obtain ⟨f, rfl⟩ : ∃ g, f = g + 1 := ⟨f - 1, by omega⟩
    have hb := Mmb hm hB
    rw [he] at hb
    refine ⟨gA σ 96, hq, ?_⟩
    unfold f_M_isGroupRight_119
    rw [e_o hm, bs, q_size hb hF ho hi, xb_mk, show (4 : Int64) = lN 4 from rfl, pk_lDiv (by omega) (by decide) (by decide), nI_l (by omega), if_pos ((pk_lLE (by omega) (by omega)).mpr (by omega)), f_M_isGroupRight_193]
    rw [sA_self]
    rfl
  | succ c ih =>
    intro j f σ q hm hB he hq hc hf hj
    obtain ⟨f, rfl⟩ : ∃ g, f = g + 1 := ⟨f - 1, by omega⟩
    have hb := Mmb hm hB
    rw [he] at hb
    have hv := gN_lt (cb_lt B o n) i j
    unfold f_M_isGroupRight_119
    rw [e_o hm, bs, q_size hb hF ho hi, xb_mk, show (4 : Int64) = lN 4 from rfl, pk_lDiv (by omega) (by decide) (by decide), nI_l (by omega), if_neg (fun e => by have := (pk_lLE (by omega) (by omega)).mp e; omega), e_o hm, bs, q_groupNumber hb hF ho hi (ar_g hZ (by omega)), xb_mk, e_o hm, bs, q_sections hb hF ho.1, xb_mk, nI_l (by omega), lN_i, gl_s]
    simp only [pk_lLT (show gN (cb B o n) i j < 2 ^ 63 by omega) (show 1 < 2 ^ 63 by decide), pk_lLE (show oS (cb B o n) < 2 ^ 63 by omega) (show gN (cb B o n) i j < 2 ^ 63 by omega), f_M_isGroupRight_176]
    by_cases c1 : gN (cb B o n) i j < 1
    · refine ⟨gA σ 96, ?_, ?_⟩
      · rw [if_pos (Or.inl c1)]; exact hq
      · rw [if_pos c1, if_pos (Or.inl c1), sA_self]
        rfl
    · by_cases c2 : oS (cb B o n) ≤ gN (cb B o n) i j
      · refine ⟨gA σ 96, ?_, ?_⟩
        · rw [if_pos (Or.inr (Or.inl c2))]; exact hq
        · rw [if_neg c1, if_pos c2, if_pos (Or.inr (Or.inl c2)), sA_self]
          rfl
      · have hv24 : gN (cb B o n) i j < 24 := by omega
        rw [if_neg c1, if_neg c2, Mr96 hm, bs, Ma96 hm hv24, bs, hq _ hv24]
        by_cases c3 : q (gN (cb B o n) i j) = true
        · refine ⟨gA σ 96, ?_, ?_⟩
          · rw [if_pos (Or.inr (Or.inr c3))]; exact hq
          · rw [if_pos (Or.inr (Or.inr c3)), c3, if_neg (by decide), sA_self]
            rfl
        · rw [if_neg (fun e => e.elim c1 (fun e => e.elim c2 c3)), Bool.eq_false_iff.mpr c3, if_pos (show bI false = 0 from rfl), bs, Ms96 hm hv24, bs, nI_add, z_1]
          obtain ⟨g, hg, e⟩ := ih (j + 1) f (sA σ 96 (upd (gA σ 96) (gN (cb B o n) i j) (bI true))) (fun x => if x = gN (cb B o n) i j then true else q x) hm hB he (by
            intro v hv
            rw [gA_sA, if_pos rfl]
            unfold upd
            by_cases c : v = gN (cb B o n) i j
            · rw [if_pos c, if_pos c]
            · rw [if_neg c, if_neg c]
              exact hq v hv) (by omega) (by omega) (by omega)
          refine ⟨g, hg, ?_⟩
          rw [e, sA_sA]
theorem q_isGroupRight {i : Nat} (hb : mb h m B) (hF : 24 < F) (hw : w2 (cb B o n) n) (hn : o + n ≤ 65536) (hi : i < oS (cb B o n)) (ht : oT (cb B o n) i = 17) : f_M_isGroupRight F m (nI o) (nI i) h = if gH (cb B o n) i = true then f_M_isGroupRight_119 F F m (nI o) (nI i) (nI 1) h else some (nI 0, h) := by
  obtain ⟨fs, h1⟩ := mb_o hb
  have ho := w1_rk hw.1 hn
  have hs := hw.1.2.1.1
  have hs2 := hw.1.2.1.2
  have hF8 : 8 < F := by omega
  have hM := w2_M hw
  have hy := oY_lt hs
  have hZ := hw.1.2.2.2.1 i hi (by rw [ht]; decide) (by rw [ht]; decide)
  have hZ63 : oZ (cb B o n) i ≤ 65536 := by
    generalize oZ (cb B o n) i = z at *
    generalize oP (cb B o n) i = y at *
    omega
  have hI := oI_lt (cb_lt B o n) i
  have hL := oL_lt (cb_lt B o n) i
  have k0 : (0 : Int32) = nI 0 := rfl
  have k1 : (nI 1 = nI 0) ↔ False := by decide
  simp only [f_M_isGroupRight, f_M_isGroupRight_81, f_M_isGroupRight_82, f_M_isGroupRight_114, h1, bs, xb_mk, q_size hb hF8 ho hi, q_symbols hb hF ho hs, q_linkOf hb hF8 ho hi, q_info hb hF8 ho hi, q_symbolMany hb hF ho hs (w2_z hw), lk, pk_lRem (show oZ (cb B o n) i < 2 ^ 63 by omega) (show 0 < 4 by decide) (show 4 < 2 ^ 63 by decide), k0, k1, if_true, if_false, pk_lLE (show oZ (cb B o n) i < 2 ^ 63 by omega) (show 0 < 2 ^ 63 by decide), lEQ (show oZ (cb B o n) i % 4 < 2 ^ 64 from Nat.lt_of_lt_of_le (Nat.mod_lt _ (by decide)) (by decide)) (show 0 < 2 ^ 64 by decide), nI_leI (show oY (cb B o n) < 2 ^ 31 by omega) (show 0 < 2 ^ 31 by decide), nI_l (show oY (cb B o n) < 2 ^ 31 by omega), lEQ (show oL (cb B o n) i < 2 ^ 64 by omega) (show oY (cb B o n) < 2 ^ 64 by omega), pk_lLE (show oI (cb B o n) i < 2 ^ 63 by omega) (show 0 < 2 ^ 63 by decide), nI_l (show oM (cb B o n) < 2 ^ 31 by omega), pk_lLE (show oM (cb B o n) < 2 ^ 63 by omega) (show oI (cb B o n) i < 2 ^ 63 by omega), lN_i]
  unfold gH
  by_cases d1 : oZ (cb B o n) i ≤ 0
  · rw [if_pos d1, decide_eq_false (fun q => by have := q.1; omega), if_neg (by decide)]
  · rw [if_neg d1]
    by_cases d2 : oZ (cb B o n) i % 4 = 0
    · rw [if_pos d2]
      by_cases d3 : oY (cb B o n) ≤ 0
      · rw [if_pos d3, decide_eq_false (fun q => by have := q.2.2.1; omega), if_neg (by decide)]
      · rw [if_neg d3]
        by_cases d4 : oL (cb B o n) i = oY (cb B o n)
        · rw [if_pos d4]
          by_cases d5 : oI (cb B o n) i ≤ 0
          · rw [if_pos d5, decide_eq_false (fun q => by have := q.2.2.2.2.1; omega), if_neg (by decide)]
          · rw [if_neg d5]
            by_cases d6 : oM (cb B o n) ≤ oI (cb B o n) i
            · rw [if_pos d6, decide_eq_false (fun q => by have := q.2.2.2.2.2.1; omega), if_neg (by decide)]
            · have hyI := w2_y hw (show oI (cb B o n) i < oM (cb B o n) by omega)
              have hBd := yB_lt (cb_lt B o n) (oI (cb B o n) i)
              have hg := gN_lt (cb_lt B o n) i 0
              rw [if_neg d6, q_bind hb hF ho hs hyI, xb_mk, h1, bs, q_groupNumber hb hF8 ho hi (ar_g hZ (by omega)), xb_mk]
              simp only [nI_eq (show yB (cb B o n) (oI (cb B o n) i) < 2 ^ 31 by omega) (show 0 < 2 ^ 31 by decide), pk_lLE (show gN (cb B o n) i 0 < 2 ^ 63 by omega) (show 1 < 2 ^ 63 by decide)]
              by_cases d7 : yB (cb B o n) (oI (cb B o n) i) = 0
              · rw [if_pos d7, decide_eq_false (fun q => q.2.2.2.2.2.2.1 d7), if_neg (by decide)]
              · rw [if_neg d7]
                by_cases d8 : gN (cb B o n) i 0 ≤ 1
                · rw [if_pos d8, decide_eq_true (show 1 ≤ oZ (cb B o n) i ∧ oZ (cb B o n) i % 4 = 0 ∧ oY (cb B o n) ≠ 0 ∧ oL (cb B o n) i = oY (cb B o n) ∧ 1 ≤ oI (cb B o n) i ∧ oI (cb B o n) i < oM (cb B o n) ∧ yB (cb B o n) (oI (cb B o n) i) ≠ 0 ∧ gN (cb B o n) i 0 ≤ 1 from ⟨by omega, d2, by omega, d4, by omega, by omega, d7, d8⟩), if_pos rfl]
                · rw [if_neg d8, decide_eq_false (fun q => d8 q.2.2.2.2.2.2.2), if_neg (by decide)]
        · rw [if_neg d4, decide_eq_false (fun q => d4 q.2.2.2.1), if_neg (by decide)]
    · rw [if_neg d2, decide_eq_false (fun q => d2 q.2.1), if_neg (by decide)]
theorem q_groupsError_23 (hF : 65536 < F) (hw : w2 (cb B o n) n) (hn : o + n ≤ 65536) : ∀ (c i f : Nat) (σ : px_S) (q : Nat → Bool), m ≤ h.length → (∀ k, isB (gA σ 6 k)) → gA σ 6 = B → (∀ v, v < 24 → gA σ 96 v = bI (q v)) → i + c = oS (cb B o n) → c < f → ∃ g, f_M_groupsError_23 F f m (nI o) (nI i) (mh m h σ) = some (nI (if gs (cb B o n) i c q = true then 0 else 9), mh m h (sA σ 96 g)) := by
  have ho := w1_rk hw.1 hn
  have hs2 := hw.1.2.1.2
  have hF8 : 8 < F := by omega
  intro c
  induction c with
  | zero =>
    intro i f σ q hm hB he hq hc hf
    obtain ⟨f, rfl⟩ : ∃ g, f = g + 1 := ⟨f - 1, by omega⟩
    have hb := Mmb hm hB
    rw [he] at hb
    refine ⟨gA σ 96, ?_⟩
    unfold f_M_groupsError_23
    rw [e_o hm, bs, q_sections hb hF8 ho.1, xb_mk, if_pos (nI_le (by omega) (by omega)), sA_self]
    rfl
  | succ c ih =>
    intro i f σ q hm hB he hq hc hf
    obtain ⟨f, rfl⟩ : ∃ g, f = g + 1 := ⟨f - 1, by omega⟩
    have hb := Mmb hm hB
    rw [he] at hb
    have hi : i < oS (cb B o n) := by omega
    unfold f_M_groupsError_23
    rw [e_o hm, bs, q_sections hb hF8 ho.1, xb_mk, if_neg (nI_ge (by omega) (by omega)), e_o hm, bs, q_isGroup hb hF8 ho hi, xb_mk, e_o hm, bs, gs_s]
    simp only [f_M_groupsError_53, f_M_groupsError_50, nI_add]
    by_cases c1 : oT (cb B o n) i = 17
    · rw [decide_eq_true c1, if_neg (show ¬ bI true = 0 by decide), if_pos c1, q_isGroupRight hb (by omega) hw hn hi c1]
      by_cases c2 : gH (cb B o n) i = true
      · rw [if_pos c2, if_pos c2]
        obtain ⟨g, hg, e⟩ := q_isGroupRight_119 (m := m) (h := h) (F := F) hF8 hw hn hi c1 (oZ (cb B o n) i / 4 - 1) 1 F σ q hm hB he hq rfl (by
          have hZ := hw.1.2.2.2.1 i hi (by rw [c1]; decide) (by rw [c1]; decide)
          generalize oZ (cb B o n) i = z at *
          generalize oP (cb B o n) i = y at *
          omega) (by decide)
        rw [e, xb_mk]
        by_cases c3 : (gl (cb B o n) i 1 (oZ (cb B o n) i / 4 - 1) q).1 = true
        · rw [c3, if_neg (by decide), if_pos rfl]
          obtain ⟨g2, e2⟩ := ih (i + 1) f (sA σ 96 g) (gl (cb B o n) i 1 (oZ (cb B o n) i / 4 - 1) q).2 hm hB he (fun v hv => by rw [gA_sA, if_pos rfl]; exact hg v hv) (by omega) (by omega)
          exact ⟨g2, by rw [e2, sA_sA]⟩
        · rw [Bool.eq_false_iff.mpr c3, if_pos (show bI false = 0 from rfl), if_neg (show ¬ false = true by decide)]
          exact ⟨g, rfl⟩
      · rw [if_neg c2, if_neg c2, xb_mk, if_pos (show nI 0 = 0 from rfl)]
        exact ⟨gA σ 96, by rw [sA_self]; rfl⟩
    · rw [decide_eq_false c1, if_pos (show bI false = 0 from rfl), if_neg c1]
      exact ih (i + 1) f σ q hm hB he hq (by omega) (by omega)
theorem q_groupsError_2 (hm : m ≤ h.length) : ∀ (c k f : Nat) (σ : px_S), (∀ v, v < k → gA σ 96 v = bI false) → k + c = 24 → c < f → ∃ g, (∀ v, v < 24 → g v = bI false) ∧ f_M_groupsError_2 F f m (nI o) (nI k) (mh m h σ) = f_M_groupsError_21 F m (nI o) (mh m h (sA σ 96 g)) := by
  intro c
  induction c with
  | zero =>
    intro k f σ hv hk hf
    obtain ⟨f, rfl⟩ : ∃ g, f = g + 1 := ⟨f - 1, by omega⟩
    refine ⟨gA σ 96, fun v h => hv v (by omega), ?_⟩
    unfold f_M_groupsError_2
    rw [if_pos (nI_le (by omega) (by omega)), sA_self]
  | succ c ih =>
    intro k f σ hv hk hf
    obtain ⟨f, rfl⟩ : ∃ g, f = g + 1 := ⟨f - 1, by omega⟩
    unfold f_M_groupsError_2
    rw [if_neg (nI_ge (by omega) (by omega)), Mr96 hm, bs, Ms96 hm (by omega), bs, nI_add, z_0]
    obtain ⟨g, hg, e⟩ := ih (k + 1) f (sA σ 96 (upd (gA σ 96) k (bI false))) (fun v hv2 => by
      rw [gA_sA, if_pos rfl]
      unfold upd
      by_cases c : v = k
      · rw [if_pos c]
      · rw [if_neg c]; exact hv v (by omega)) (by omega) (by omega)
    exact ⟨g, hg, by rw [e, sA_sA]⟩
theorem q_groupsError (hF : 65536 < F) (hw : w2 (cb (gA σ 6) o n) n) (hn : o + n ≤ 65536) (hm : m ≤ h.length) (hB : ∀ k, isB (gA σ 6 k)) : ∃ g, f_M_groupsError F m (nI o) (mh m h σ) = some (nI (eGrp (cb (gA σ 6) o n)), mh m h (sA σ 96 g)) := by
  unfold f_M_groupsError eGrp
  have := hw.1.2.1.1
  obtain ⟨g, hg, e⟩ := q_groupsError_2 (F := F) (o := o) (h := h) hm 24 0 F σ (fun v h => absurd h (Nat.not_lt_zero v)) rfl (by omega)
  rw [e]
  unfold f_M_groupsError_21
  obtain ⟨g2, e2⟩ := q_groupsError_23 (m := m) (h := h) (B := gA σ 6) hF hw hn (oS (cb (gA σ 6) o n) - 1) 1 F (sA σ 96 g) (fun _ => false) hm hB rfl (fun v hv => by rw [gA_sA, if_pos rfl]; exact hg v hv) (by omega) (by have := hw.1.2.1.2; omega)
  exact ⟨g2, by rw [e2, sA_sA]⟩
end GRP
/-- the error of an object -/
def eObj (b : Nat → Nat) (n : Nat) : Nat := if n < 64 ∨ oH b = false then 1 else if ¬ (1 ≤ oS b ∧ oS b ≤ 24 ∧ oR b + 64 * oS b ≤ n ∧ oT b 0 = 0) then 2 else if fst0 (eSec b n) 0 (oS b) ≠ 0 then fst0 (eSec b n) 0 (oS b) else if eSym b ≠ 0 then eSym b else if eSit b ≠ 0 then eSit b else eGrp b
theorem fst0_0 {f : Nat → Nat} : ∀ {c i : Nat}, fst0 f i c = 0 → ∀ x, i ≤ x → x < i + c → f x = 0
  | 0, _, _, x, h1, h2 => absurd h2 (by omega)
  | c + 1, i, h, x, h1, h2 => by
    rw [fst0_s] at h
    by_cases e : f i = 0
    · rw [if_pos e] at h
      by_cases ex : x = i
      · rw [ex]; exact e
      · exact fst0_0 h x (by omega) (by omega)
    · rw [if_neg e] at h
      exact absurd h e
theorem eSec_w {b : Nat → Nat} {n i : Nat} (h : eSec b n i = 0) : (oT b i ≠ 0 → oT b i ≠ 8 → oP b i + oZ b i ≤ n) ∧ (oK b i = true → oZ b i ≤ 16384) ∧ (oK b i = true → oA b i = 0 ∨ isP (oA b i) = true) := by
  unfold eSec at h
  by_cases c1 : oT b i ≠ 0 ∧ oT b i ≠ 8 ∧ ¬ oP b i + oZ b i ≤ n
  · rw [if_pos c1] at h; exact absurd h (by decide)
  · rw [if_neg c1] at h
    by_cases c2 : oK b i = true ∧ (16384 < oZ b i ∨ oA b i ≠ 0 ∧ isP (oA b i) = false)
    · rw [if_pos c2] at h; exact absurd h (by decide)
    · refine ⟨fun h1 h2 => Decidable.byContradiction (fun h3 => c1 ⟨h1, h2, h3⟩), fun hk => Nat.not_lt.mp (fun h3 => c2 ⟨hk, Or.inl h3⟩), fun hk => ?_⟩
      by_cases e : oA b i = 0
      · exact Or.inl e
      · right
        cases hq : isP (oA b i) with
        | true => rfl
        | false => exact absurd ⟨hk, Or.inr ⟨e, hq⟩⟩ c2
theorem eSym_w {b : Nat → Nat} (h : eSym b = 0) : oY b ≠ 0 → oZ b (oY b) % 24 = 0 ∧ oZ b (oY b) ≤ 1536 ∧ oX b < oS b ∧ oT b (oX b) = 3 := by
  intro c
  unfold eSym at h
  by_cases c1 : 1 < cnt (fun i => decide (oT b i = 2)) 1 (oS b - 1)
  · rw [if_pos c1] at h; exact absurd h (by decide)
  · rw [if_neg c1, if_neg c] at h
    by_cases c2 : oZ b (oY b) % 24 = 0 ∧ oZ b (oY b) ≤ 1536 ∧ oX b < oS b ∧ oT b (oX b) = 3
    · exact c2
    · rw [if_neg c2] at h; exact absurd h (by decide)
theorem eSec_3 (b : Nat → Nat) (n i : Nat) : eSec b n i ≤ 4 := by
  unfold eSec
  split
  · decide
  · split <;> decide
theorem fst0_le {f : Nat → Nat} {M : Nat} (hf : ∀ i, f i ≤ M) : ∀ {c i : Nat}, fst0 f i c ≤ M
  | 0, _ => Nat.zero_le _
  | c + 1, i => by
    rw [fst0_s]
    split
    · exact fst0_le hf
    · exact hf i
section OBJ
variable {F : Nat} {h : px_H} {m o n : Nat} {σ : px_S}
theorem q_objectError_73 (hF : 65536 < F) (hm : m ≤ h.length) (hB : ∀ k, isB (gA σ 6 k)) (ho : rk (gA σ 6) o n) (hn : n ≤ 65536) : ∀ (c i f : Nat), i + c = oS (cb (gA σ 6) o n) → c < f → f_M_objectError_73 F f m (nI o) (nI n) (nI (oS (cb (gA σ 6) o n))) (nI i) (mh m h σ) = if fst0 (eSec (cb (gA σ 6) o n) n) i c = 0 then f_M_objectError_103 F m (nI o) (mh m h σ) else some (nI (fst0 (eSec (cb (gA σ 6) o n) n) i c), mh m h σ) := by
  have hb := Mmb hm hB
  have hs2 := ho.2.2
  intro c
  induction c with
  | zero =>
    intro i f hi hf
    obtain ⟨f, rfl⟩ : ∃ g, f = g + 1 := ⟨f - 1, by omega⟩
    unfold f_M_objectError_73
    rw [if_pos (nI_le (by omega) (by omega))]
    rfl
  | succ c ih =>
    intro i f hi hf
    obtain ⟨f, rfl⟩ : ∃ g, f = g + 1 := ⟨f - 1, by omega⟩
    have h4 := eSec_3 (cb (gA σ 6) o n) n i
    unfold f_M_objectError_73
    rw [if_neg (nI_ge (by omega) (by omega)), e_o hm, bs, q_sectionError hb (by omega) ho (by omega) hn, xb_mk, fst0_s, show (0 : Int32) = nI 0 from rfl]
    by_cases c1 : eSec (cb (gA σ 6) o n) n i = 0
    · rw [if_pos c1, if_pos (nI_le (by omega) (by decide)), nI_add]
      exact ih (i + 1) f (by omega) (by omega)
    · rw [if_neg c1, if_neg (nI_ge (by omega) (by omega)), if_neg c1]
      rfl
theorem q_objectError (hF : 65536 < F) (hm : m ≤ h.length) (hB : ∀ k, isB (gA σ 6 k)) (hn : o + n ≤ 65536) : ∃ g, f_M_objectError F m (nI o) (nI n) (mh m h σ) = some (nI (eObj (cb (gA σ 6) o n) n), mh m h (sA σ 96 g)) := by
  have hb := Mmb hm hB
  have k0 : (0 : Int32) = nI 0 := rfl
  have hF8 : 8 < F := by omega
  unfold f_M_objectError eObj
  simp only [f_M_objectError_14, f_M_objectError_68]
  by_cases c1 : n < 64
  · rw [if_pos (nI_lt c1 (by decide)), if_pos (Or.inl c1)]
    exact ⟨gA σ 96, by rw [sA_self]⟩
  · have ho64 : 64 ≤ n ∧ o + n ≤ 65536 := ⟨by omega, hn⟩
    rw [if_neg (nI_nlt (by omega) (by omega)), e_o hm, bs, q_isHeader hb hF8 ho64, xb_mk]
    by_cases c2 : oH (cb (gA σ 6) o n) = true
    · have hS := oS_lt (cb_lt (gA σ 6) o n)
      have hR := oR_lt (cb_lt (gA σ 6) o n)
      rw [c2, if_neg (show ¬ bI true = 0 by decide), if_neg (show ¬ (n < 64 ∨ true = false) from fun e => e.elim c1 (by decide)), e_o hm, bs, q_sections hb hF8 ho64, xb_mk, e_o hm, bs, nI_add, q_numo hb hF8 (by decide) hn (by omega), xb_mk, show le (cb (gA σ 6) o n) 40 8 = oR (cb (gA σ 6) o n) from rfl, show (64 : Int64) = lN 64 from rfl, nI_l (show oS (cb (gA σ 6) o n) < 2 ^ 31 by omega), lN_mul, nI_l (show n < 2 ^ 31 by omega), q_lies hR (by omega) (by omega), xb_mk]
      simp only [nI_ltI (show oS (cb (gA σ 6) o n) < 2 ^ 31 by omega) (show 1 < 2 ^ 31 by decide), nI_ltI (show 24 < 2 ^ 31 by decide) (show oS (cb (gA σ 6) o n) < 2 ^ 31 by omega), k0, bI_0, decide_eq_false_iff_not]
      by_cases d1 : oS (cb (gA σ 6) o n) < 1
      · rw [if_pos d1, if_pos (fun q => by have := q.1; omega)]
        exact ⟨gA σ 96, by rw [sA_self]⟩
      · rw [if_neg d1]
        by_cases d2 : 24 < oS (cb (gA σ 6) o n)
        · rw [if_pos d2, if_pos (fun q => by have := q.2.1; omega)]
          exact ⟨gA σ 96, by rw [sA_self]⟩
        · rw [if_neg d2]
          by_cases d3 : oR (cb (gA σ 6) o n) + 64 * oS (cb (gA σ 6) o n) ≤ n
          · have ho : rk (gA σ 6) o n := ⟨ho64, d3, by omega⟩
            have hT := oT_lt (cb_lt (gA σ 6) o n) 0
            rw [if_neg (fun q => q d3), e_o hm, bs, q_type hb hF8 ho (by omega), xb_mk]
            simp only [lEQ (show oT (cb (gA σ 6) o n) 0 < 2 ^ 64 by omega) (show 0 < 2 ^ 64 by decide)]
            by_cases d4 : oT (cb (gA σ 6) o n) 0 = 0
            · rw [if_pos d4, if_neg (fun q => q ⟨by omega, by omega, d3, d4⟩), q_objectError_73 hF hm hB ho (by omega) (oS (cb (gA σ 6) o n)) 0 F (by omega) (by omega)]
              by_cases d5 : fst0 (eSec (cb (gA σ 6) o n) n) 0 (oS (cb (gA σ 6) o n)) = 0
              · have hw : w1 (cb (gA σ 6) o n) n := ⟨by omega, ⟨by omega, by omega⟩, d3, fun i hi => (eSec_w (fst0_0 d5 i (Nat.zero_le _) (by omega))).1, fun i hi => (eSec_w (fst0_0 d5 i (Nat.zero_le _) (by omega))).2.1⟩
                rw [if_pos d5, if_neg (fun q => q d5)]
                unfold f_M_objectError_103
                rw [e_o hm, bs, q_symbolsError hb (by omega) hw hn, xb_mk]
                by_cases d6 : eSym (cb (gA σ 6) o n) = 0
                · have hw2 : w2 (cb (gA σ 6) o n) n := ⟨hw, eSym_w d6⟩
                  rw [d6, if_pos (show nI 0 ≤ 0 by decide), if_neg (fun q => q rfl), e_o hm, bs, q_sitesError hb hF hw2 hn, xb_mk]
                  unfold f_M_objectError_125 f_M_objectError_142
                  by_cases d7 : eSit (cb (gA σ 6) o n) = 0
                  · obtain ⟨g, e⟩ := q_groupsError hF hw2 hn hm hB
                    rw [d7, if_pos (show nI 0 ≤ 0 by decide), if_neg (fun q => q rfl), e_o hm, bs, e, xb_mk]
                    exact ⟨g, rfl⟩
                  · have h7 : eSit (cb (gA σ 6) o n) = 7 := by
                      unfold eSit at d7 ⊢
                      by_cases e : al (fun i => !isS (cb (gA σ 6) o n) i || sSec (cb (gA σ 6) o n) i) 1 (oS (cb (gA σ 6) o n) - 1) = true
                      · rw [if_pos e] at d7; exact absurd rfl d7
                      · rw [if_neg e]
                    rw [h7, if_neg (show ¬ nI 7 ≤ 0 by decide), if_pos (show 7 ≠ 0 by decide)]
                    exact ⟨gA σ 96, by rw [sA_self]⟩
                · have h6 : eSym (cb (gA σ 6) o n) = 5 ∨ eSym (cb (gA σ 6) o n) = 6 := by
                    unfold eSym at d6 ⊢
                    split at d6
                    · left; rw [if_pos (by assumption)]
                    · rw [if_neg (by assumption)]
                      split at d6
                      · exact absurd rfl d6
                      · rw [if_neg (by assumption)]
                        split at d6
                        · rw [if_pos (by assumption)]
                          split at d6
                          · exact absurd rfl d6
                          · right; rw [if_neg (by assumption)]
                        · left; rw [if_neg (by assumption)]
                  rw [if_pos d6]
                  unfold f_M_objectError_125 f_M_objectError_142
                  rcases h6 with e | e
                  · rw [e, if_neg (show ¬ nI 5 ≤ 0 by decide), if_neg (show ¬ nI 5 ≤ 0 by decide)]
                    exact ⟨gA σ 96, by rw [sA_self]⟩
                  · rw [e, if_neg (show ¬ nI 6 ≤ 0 by decide), if_neg (show ¬ nI 6 ≤ 0 by decide)]
                    exact ⟨gA σ 96, by rw [sA_self]⟩
              · rw [if_neg d5, if_pos d5]
                exact ⟨gA σ 96, by rw [sA_self]⟩
            · rw [if_neg d4, if_pos (fun q => d4 q.2.2.2)]
              exact ⟨gA σ 96, by rw [sA_self]⟩
          · rw [if_pos d3, if_pos (fun q => d3 q.2.2.1)]
            exact ⟨gA σ 96, by rw [sA_self]⟩
    · have c3 := Bool.eq_false_iff.mpr c2
      rw [c3, if_pos (show bI false = 0 from rfl), if_pos (Or.inr rfl)]
      exact ⟨gA σ 96, by rw [sA_self]⟩
end OBJ
end
section
/-! files: archives, and what the reference makes of a tape -/
def isDg (x : Nat) : Bool := decide (48 ≤ x ∧ x ≤ 57)
/-- how many digits from p on, at most c -/
def dr (b : Nat → Nat) : Nat → Nat → Nat
  | _, 0 => 0
  | p, c + 1 => if isDg (b p) = true then dr b (p + 1) c + 1 else 0
/-- the number of k digits from p on, behind v -/
def dv (b : Nat → Nat) : Nat → Nat → Nat → Nat
  | _, 0, v => v
  | p, k + 1, v => dv b (p + 1) k (10 * v + (b p - 48))
theorem dr_le (b : Nat → Nat) : ∀ (c p : Nat), dr b p c ≤ c
  | 0, _ => Nat.le_refl _
  | c + 1, p => by
    unfold dr
    split
    · have := dr_le b c (p + 1); omega
    · omega
theorem dr_s (b : Nat → Nat) (p c : Nat) : dr b p (c + 1) = if isDg (b p) = true then dr b (p + 1) c + 1 else 0 := rfl
theorem dv_s (b : Nat → Nat) (p k v : Nat) : dv b p (k + 1) v = dv b (p + 1) k (10 * v + (b p - 48)) := rfl
/-- how many digits the size of the member at p has, and the size -/
def aK (b : Nat → Nat) (p : Nat) : Nat := dr b (p + 48) 10
def aV (b : Nat → Nat) (p : Nat) : Nat := dv b (p + 48) (aK b p) 0
/-- the member at p is as told, of a file of n bytes -/
def aOK (b : Nat → Nat) (n p : Nat) : Bool := decide (p + 60 ≤ n ∧ b (p + 58) = 96 ∧ b (p + 59) = 10 ∧ 1 ≤ aK b p) && al (fun x => decide (b x = 32)) (p + 48 + aK b p) (10 - aK b p) && decide (p + 60 + aV b p ≤ n ∧ (aV b p % 2 = 0 ∨ p + 60 + aV b p < n ∧ b (p + 60 + aV b p) = 10))
def aX (b : Nat → Nat) (p : Nat) : Nat := p + 60 + aV b p + aV b p % 2
/-- the members from p on, c at most: where the bytes of each begin, how many, whether it counts for nothing -/
def ams (b : Nat → Nat) (n : Nat) : Nat → Nat → Option (List (Nat × Nat × Bool))
  | 0, p => if n ≤ p then some [] else none
  | c + 1, p => if n ≤ p then some [] else if aOK b n p = true then (ams b n c (aX b p)).map (fun l => (p + 60, aV b p, decide (b p = 47)) :: l) else none
theorem ams_s (b : Nat → Nat) (n c p : Nat) : ams b n (c + 1) p = if n ≤ p then some [] else if aOK b n p = true then (ams b n c (aX b p)).map (fun l => (p + 60, aV b p, decide (b p = 47)) :: l) else none := rfl
theorem dv_lt {b : Nat → Nat} (hb : ∀ k, b k < 256) : ∀ (k p v : Nat), (∀ x, p ≤ x → x < p + k → b x ≤ 57) → dv b p k v < (v + 1) * 10 ^ k
  | 0, p, v, _ => by unfold dv; rw [Nat.pow_zero]; omega
  | k + 1, p, v, h => by
    rw [dv_s]
    have h1 := dv_lt hb k (p + 1) (10 * v + (b p - 48)) (fun x h1 h2 => h x (by omega) (by omega))
    have h2 := h p (Nat.le_refl _) (by omega)
    refine Nat.lt_of_lt_of_le h1 ?_
    rw [Nat.pow_succ, Nat.mul_comm (10 ^ k) 10, ← Nat.mul_assoc]
    exact Nat.mul_le_mul_right _ (by omega)
theorem dr_dg {b : Nat → Nat} : ∀ (c p x : Nat), p ≤ x → x < p + dr b p c → isDg (b x) = true
  | 0, p, x, h1, h2 => by unfold dr at h2; omega
  | c + 1, p, x, h1, h2 => by
    rw [dr_s] at h2
    by_cases e : isDg (b p) = true
    · rw [if_pos e] at h2
      by_cases ex : x = p
      · rw [ex]; exact e
      · exact dr_dg c (p + 1) x (by omega) (by omega)
    · rw [if_neg e] at h2; omega
theorem aV_lt {b : Nat → Nat} (hb : ∀ k, b k < 256) (p : Nat) : aV b p < 10 ^ 10 := by
  have h1 := dv_lt hb (aK b p) (p + 48) 0 (fun x h1 h2 => (of_decide_eq_true (dr_dg 10 (p + 48) x h1 h2)).2)
  have h2 : (0 + 1) * 10 ^ aK b p ≤ 10 ^ 10 := by
    rw [Nat.zero_add, Nat.one_mul]
    exact Nat.pow_le_pow_right (by decide) (dr_le b 10 (p + 48))
  exact Nat.lt_of_lt_of_le h1 h2
section MEM
variable {F : Nat} {h : px_H} {m f n : Nat}
theorem b8_neg {x : Int32} (h : isB x) : x.toInt64 = if b8 x < 128 then lN (b8 x) else lN (b8 x) - lN 256 := by
  have h1 := isB_T h
  have h2 := b8_lt x
  apply Int64.toInt_inj.mp
  rw [Int32.toInt_toInt64, h1]
  by_cases c : b8 x < 128
  · rw [if_pos c, if_pos c, pk_lT (by omega)]
  · rw [if_neg c, if_neg c]
    have : ∀ y, y < 256 → 128 ≤ y → (lN y - lN 256).toInt = (y : Int) - 256 := by decide +kernel
    rw [this _ h2 (by omega)]
/-- the reference's heap holds the bytes of a file at f -/
def fb (σ : px_S) (f n : Nat) : Nat → Nat := cb (gA σ 6) (8192 * f) n
section M76
variable {k : Nat → Int32 → Int32 → Int32 → px_H → Option (Int32 × px_H)} {p : Nat} {σ : px_S}
theorem q_isMembers_159 (hm : m ≤ h.length) (hB : ∀ k, isB (gA σ 6 k)) (hf : f < 8) (hp : p + 60 ≤ n) (hn : n ≤ 8192) (v : Int64) : ∀ (c j g : Nat), j + c = 10 → c < g → f_M_isMembers_159 F k g m (nI f) (nI n) (nI p) (nI (8192 * f + p)) v (nI j) (mh m h σ) = if al (fun x => decide (fb σ f n x = 32)) (p + 48 + j) c = true then f_M_isMembers_192 F k m (nI f) (nI n) (nI p) (nI (8192 * f + p)) v (mh m h σ) else some (nI 0, mh m h σ) := by
  intro c
  induction c with
  | zero =>
    intro j g hj hg
    obtain ⟨g, rfl⟩ : ∃ x, g = x + 1 := ⟨g - 1, by omega⟩
    unfold f_M_isMembers_159
    rw [if_pos (nI_le (by omega) (by omega))]
    rfl
  | succ c ih =>
    intro j g hj hg
    obtain ⟨g, rfl⟩ : ∃ x, g = x + 1 := ⟨g - 1, by omega⟩
    unfold f_M_isMembers_159
    rw [if_neg (nI_ge (by omega) (by omega)), Mr6 hm, bs, nI_add, nI_add, nI_add, Ma6 hm (by omega), bs, al_s, ih (j + 1) g (by omega) (by omega)]
    simp only [isB_eq (hB (8192 * f + p + 48 + j)) (show 32 < 128 by decide)]
    have e : fb σ f n (p + 48 + j) = b8 (gA σ 6 (8192 * f + p + 48 + j)) := by
      unfold fb
      rw [cb_at (by omega)]
      congr 2
      omega
    rw [e, show p + 48 + (j + 1) = p + 48 + j + 1 by omega]
    by_cases c1 : b8 (gA σ 6 (8192 * f + p + 48 + j)) = 32
    · rw [if_pos c1, decide_eq_true c1, Bool.true_and]
    · rw [if_neg c1, decide_eq_false c1, Bool.false_and]
      rfl
theorem q_isMembers_76 (hm : m ≤ h.length) (hB : ∀ k, isB (gA σ 6 k)) (hF : 10 < F) (hf : f < 8) (hp : p + 60 ≤ n) (hn : n ≤ 8192) : ∀ (c j g v : Nat), j + c = 10 → c < g → (v + 1) * 10 ^ c ≤ 10 ^ 10 → f_M_isMembers_76 F k g m (nI f) (nI n) (nI p) (nI (8192 * f + p)) (lN v) (nI j) (mh m h σ) = f_M_isMembers_152 F k m (nI f) (nI n) (nI p) (nI (8192 * f + p)) (lN (dv (fb σ f n) (p + 48 + j) (dr (fb σ f n) (p + 48 + j) c) v)) (nI (j + dr (fb σ f n) (p + 48 + j) c)) (mh m h σ) := by
  intro c
  induction c with
  | zero =>
    intro j g v hj hg hv
    obtain ⟨g, rfl⟩ : ∃ x, g = x + 1 := ⟨g - 1, by omega⟩
    unfold f_M_isMembers_76
    rw [if_pos (nI_le (by omega) (by omega))]
    rfl
  | succ c ih =>
    intro j g v hj hg hv
    obtain ⟨g, rfl⟩ : ∃ x, g = x + 1 := ⟨g - 1, by omega⟩
    unfold f_M_isMembers_76
    rw [if_neg (nI_ge (by omega) (by omega))]
    simp only [Mr6 hm, bs, nI_add, Ma6 hm (show 8192 * f + p + 48 + j < 65536 by omega)]
    have hb := hB (8192 * f + p + 48 + j)
    simp only [isB_lt hb (show 48 < 128 by decide), isB_gt hb (show 57 < 128 by decide)]
    have e : fb σ f n (p + 48 + j) = b8 (gA σ 6 (8192 * f + p + 48 + j)) := by
      unfold fb
      rw [cb_at (by omega)]
      congr 2
      omega
    rw [dr_s, e]
    by_cases c1 : b8 (gA σ 6 (8192 * f + p + 48 + j)) < 48 ∨ 128 ≤ b8 (gA σ 6 (8192 * f + p + 48 + j))
    · rw [if_pos c1, if_neg (fun q => by have := of_decide_eq_true q; omega)]
      rfl
    · rw [if_neg c1]
      by_cases c2 : 57 < b8 (gA σ 6 (8192 * f + p + 48 + j)) ∧ b8 (gA σ 6 (8192 * f + p + 48 + j)) < 128
      · rw [if_pos c2, if_neg (fun q => by have := of_decide_eq_true q; omega)]
        rfl
      · have c3 : 48 ≤ b8 (gA σ 6 (8192 * f + p + 48 + j)) ∧ b8 (gA σ 6 (8192 * f + p + 48 + j)) ≤ 57 := by omega
        have e3 : (v + 1) * 10 ^ (c + 1) = (v + 1) * 10 * 10 ^ c := by rw [Nat.pow_succ, Nat.mul_comm (10 ^ c), Nat.mul_assoc]
        rw [if_neg c2, if_pos (show isDg (b8 (gA σ 6 (8192 * f + p + 48 + j))) = true from decide_eq_true c3), dv_s, e, b8_neg hb, if_pos (by omega), show (10 : Int64) = lN 10 from rfl, show (48 : Int64) = lN 48 from rfl, lN_mul, lN_add, lN_sub (by omega), ih (j + 1) g _ (by omega) (by omega) (by
          refine Nat.le_trans (Nat.mul_le_mul_right _ (?_ : _ ≤ (v + 1) * 10)) (by rw [← e3]; exact hv)
          omega)]
        rw [show p + 48 + (j + 1) = p + 48 + j + 1 by omega, show 10 * v + b8 (gA σ 6 (8192 * f + p + 48 + j)) - 48 = 10 * v + (b8 (gA σ 6 (8192 * f + p + 48 + j)) - 48) by omega, show j + 1 + dr (fb σ f n) (p + 48 + j + 1) c = j + (dr (fb σ f n) (p + 48 + j + 1) c + 1) by omega]
end M76
theorem aOK_p {b : Nat → Nat} {n p : Nat} (hq : aOK b n p = true) : p + 60 ≤ n ∧ b (p + 58) = 96 ∧ b (p + 59) = 10 ∧ 1 ≤ aK b p ∧ p + 60 + aV b p ≤ n ∧ (aV b p % 2 = 0 ∨ p + 60 + aV b p < n ∧ b (p + 60 + aV b p) = 10) := by
  unfold aOK at hq
  have h1 := (Bool.and_eq_true _ _).mp hq
  have h2 := (Bool.and_eq_true _ _).mp h1.1
  have h3 := of_decide_eq_true h2.1
  have h4 := of_decide_eq_true h1.2
  exact ⟨h3.1, h3.2.1, h3.2.2.1, h3.2.2.2, h4.1, h4.2⟩
/-- what the rows say of the members from the c-th on -/
def mrow (σ : px_S) (f : Nat) : Nat → List (Nat × Nat × Bool) → Prop
  | _, [] => True
  | c, x :: l => (gA σ 9 (8 * f + c) = nI (8192 * f + x.1) ∧ gA σ 10 (8 * f + c) = nI x.2.1 ∧ gA σ 12 (8 * f + c) = bI x.2.2) ∧ mrow σ f (c + 1) l
/-- nothing has changed but the rows of file f, and inGroup -/
def mfr (f : Nat) (σ σ' : px_S) : Prop := (∀ k, gI σ' k = gI σ k) ∧ (∀ k, gJ σ' k = gJ σ k) ∧ (∀ k, gB σ' k = gB σ k) ∧ (∀ k, k ≠ 8 → k ≠ 9 → k ≠ 10 → k ≠ 11 → k ≠ 12 → k ≠ 96 → gA σ' k = gA σ k) ∧ (∀ i, i ≠ f → gA σ' 8 i = gA σ 8 i ∧ gA σ' 11 i = gA σ 11 i) ∧ (∀ i, (i < 8 * f ∨ 8 * f + 8 ≤ i) → gA σ' 9 i = gA σ 9 i ∧ gA σ' 10 i = gA σ 10 i ∧ gA σ' 12 i = gA σ 12 i)
theorem mfr_refl (f : Nat) (σ : px_S) : mfr f σ σ := ⟨fun _ => rfl, fun _ => rfl, fun _ => rfl, fun _ _ _ _ _ _ _ => rfl, fun _ _ => ⟨rfl, rfl⟩, fun _ _ => ⟨rfl, rfl, rfl⟩⟩
theorem mfr_trans {f : Nat} {σ σ' σ'' : px_S} (h1 : mfr f σ σ') (h2 : mfr f σ' σ'') : mfr f σ σ'' := ⟨fun k => (h2.1 k).trans (h1.1 k), fun k => (h2.2.1 k).trans (h1.2.1 k), fun k => (h2.2.2.1 k).trans (h1.2.2.1 k), fun k a b c d e g => (h2.2.2.2.1 k a b c d e g).trans (h1.2.2.2.1 k a b c d e g), fun i hi => ⟨((h2.2.2.2.2.1 i hi).1).trans (h1.2.2.2.2.1 i hi).1, ((h2.2.2.2.2.1 i hi).2).trans (h1.2.2.2.2.1 i hi).2⟩, fun i hi => ⟨((h2.2.2.2.2.2 i hi).1).trans (h1.2.2.2.2.2 i hi).1, ((h2.2.2.2.2.2 i hi).2.1).trans (h1.2.2.2.2.2 i hi).2.1, ((h2.2.2.2.2.2 i hi).2.2).trans (h1.2.2.2.2.2 i hi).2.2⟩⟩
theorem mfr_96 (f : Nat) (σ : px_S) (g : Nat → Int32) : mfr f σ (sA σ 96 g) := ⟨fun _ => rfl, fun _ => rfl, fun _ => rfl, fun k _ _ _ _ _ h => by rw [gA_sA, if_neg h], fun _ _ => ⟨rfl, rfl⟩, fun _ _ => ⟨rfl, rfl, rfl⟩⟩
theorem upd_ne {g : Nat → Int32} {i j : Nat} {v : Int32} (h : j ≠ i) : upd g i v j = g j := if_neg h
theorem upd_eq {g : Nat → Int32} {i : Nat} {v : Int32} : upd g i v i = v := if_pos rfl
/-- one member's row -/
def mput (σ : px_S) (f c a s : Nat) (z : Bool) : px_S := sA (sA (sA (sA σ 9 (upd (gA σ 9) (8 * f + c) (nI a))) 10 (upd (gA σ 10) (8 * f + c) (nI s))) 12 (upd (gA σ 12) (8 * f + c) (bI z))) 8 (upd (gA σ 8) f (nI (c + 1)))
theorem mput_fr {σ : px_S} {f c a s : Nat} {z : Bool} (hc : c < 8) : mfr f σ (mput σ f c a s z) := by
  refine ⟨fun _ => rfl, fun _ => rfl, fun _ => rfl, ?_, ?_, ?_⟩
  · intro k h8 h9 h10 _ h12 _
    unfold mput
    rw [gA_sA, if_neg h8, gA_sA, if_neg h12, gA_sA, if_neg h10, gA_sA, if_neg h9]
  · intro i hi
    refine ⟨?_, rfl⟩
    show upd (gA σ 8) f (nI (c + 1)) i = _
    exact upd_ne hi
  · intro i hi
    have : i ≠ 8 * f + c := by omega
    exact ⟨upd_ne this, upd_ne this, upd_ne this⟩
theorem mrow_put {σ : px_S} {f c a s d : Nat} {z : Bool} (hd : c < d) : ∀ (l : List (Nat × Nat × Bool)), mrow (mput σ f c a s z) f d l ↔ mrow σ f d l := by
  intro l
  induction l generalizing d with
  | nil => exact Iff.rfl
  | cons x l ih =>
    unfold mrow
    have e : 8 * f + d ≠ 8 * f + c := by omega
    have e1 : gA (mput σ f c a s z) 9 (8 * f + d) = gA σ 9 (8 * f + d) := upd_ne e
    have e2 : gA (mput σ f c a s z) 10 (8 * f + d) = gA σ 10 (8 * f + d) := upd_ne e
    have e3 : gA (mput σ f c a s z) 12 (8 * f + d) = gA σ 12 (8 * f + d) := upd_ne e
    rw [e1, e2, e3, ih (by omega)]
theorem ite_b {α : Type} {P : Prop} [Decidable P] {q : Bool} (hq : P ↔ q = true) (G : Int32 → α) : (if P then G (nI 1) else G (nI 0)) = G (bI q) := by
  by_cases c : P
  · rw [if_pos c, hq.mp c]; rfl
  · rw [if_neg c, Bool.eq_false_iff.mpr (fun e => c (hq.mpr e))]; rfl
theorem aOK_not {b : Nat → Nat} {n p : Nat} (h : ¬ (p + 60 ≤ n ∧ b (p + 58) = 96 ∧ b (p + 59) = 10 ∧ 1 ≤ aK b p ∧ al (fun x => decide (b x = 32)) (p + 48 + aK b p) (10 - aK b p) = true ∧ p + 60 + aV b p ≤ n ∧ (aV b p % 2 = 0 ∨ p + 60 + aV b p < n ∧ b (p + 60 + aV b p) = 10))) : aOK b n p = false := by
  cases hq : aOK b n p with
  | false => rfl
  | true =>
    exfalso
    apply h
    have h5 := aOK_p hq
    unfold aOK at hq
    have h1 := (Bool.and_eq_true _ _).mp hq
    have h2 := (Bool.and_eq_true _ _).mp h1.1
    exact ⟨h5.1, h5.2.1, h5.2.2.1, h5.2.2.2.1, h2.2, h5.2.2.2.2.1, h5.2.2.2.2.2⟩
theorem aOK_yes {b : Nat → Nat} {n p : Nat} (h : p + 60 ≤ n ∧ b (p + 58) = 96 ∧ b (p + 59) = 10 ∧ 1 ≤ aK b p ∧ al (fun x => decide (b x = 32)) (p + 48 + aK b p) (10 - aK b p) = true ∧ p + 60 + aV b p ≤ n ∧ (aV b p % 2 = 0 ∨ p + 60 + aV b p < n ∧ b (p + 60 + aV b p) = 10)) : aOK b n p = true := by
  unfold aOK
  rw [decide_eq_true (show p + 60 ≤ n ∧ b (p + 58) = 96 ∧ b (p + 59) = 10 ∧ 1 ≤ aK b p from ⟨h.1, h.2.1, h.2.2.1, h.2.2.2.1⟩), h.2.2.2.2.1, decide_eq_true h.2.2.2.2.2]
  rfl
theorem q_isMembers_3 (hF : 10 < F) (hf : f < 8) (hn : n ≤ 8192) : ∀ (c d p g : Nat) (σ : px_S), m ≤ h.length → (∀ k, isB (gA σ 6 k)) → gA σ 8 f = nI d → c + d = 8 → p ≤ n → c < g → ∃ σ', mfr f σ σ' ∧ (∀ i, i < 8 * f + d → gA σ' 9 i = gA σ 9 i ∧ gA σ' 10 i = gA σ 10 i ∧ gA σ' 12 i = gA σ 12 i) ∧ (∀ i, gA σ' 11 i = gA σ 11 i) ∧ f_M_isMembers_3 F g m (nI f) (nI n) (nI p) (mh m h σ) = some (bI (ams (fb σ f n) n c p).isSome, mh m h σ') ∧ ∀ l, ams (fb σ f n) n c p = some l → mrow σ' f d l ∧ gA σ' 8 f = nI (d + l.length) := by
  intro c
  induction c with
  | zero =>
    intro d p g σ hm hB hd hc hp hg
    obtain ⟨g, rfl⟩ : ∃ x, g = x + 1 := ⟨g - 1, by omega⟩
    refine ⟨σ, mfr_refl f σ, fun _ _ => ⟨rfl, rfl, rfl⟩, fun _ => rfl, ?_, ?_⟩
    · unfold f_M_isMembers_3 ams
      by_cases c1 : n ≤ p
      · rw [if_pos (nI_le c1 (by omega)), if_pos c1]
        rfl
      · rw [if_neg (nI_ge (by omega) (by omega)), if_neg c1, Mr8 hm, bs, Ma8 hm hf, bs, hd, show d = 8 by omega, if_pos rfl]
        rfl
    · intro l hl
      unfold ams at hl
      by_cases c1 : n ≤ p
      · rw [if_pos c1] at hl
        cases hl
        exact ⟨trivial, hd⟩
      · rw [if_neg c1] at hl; cases hl
  | succ c ih =>
    intro d p g σ hm hB hd hc hp hg
    obtain ⟨g, rfl⟩ : ∃ x, g = x + 1 := ⟨g - 1, by omega⟩
    unfold f_M_isMembers_3
    rw [ams_s]
    by_cases c1 : n ≤ p
    · refine ⟨σ, mfr_refl f σ, fun _ _ => ⟨rfl, rfl, rfl⟩, fun _ => rfl, ?_, ?_⟩
      · rw [if_pos (nI_le c1 (by omega)), if_pos c1]
        rfl
      · intro l hl
        rw [if_pos c1] at hl
        cases hl
        exact ⟨trivial, hd⟩
    · have hbV := aV_lt (cb_lt (gA σ 6) (8192 * f) n) p
      have eb : ∀ x, x < n → fb σ f n x = b8 (gA σ 6 (8192 * f + x)) := fun _ hx => cb_at hx
      rw [if_neg (nI_ge (by omega) (by omega)), if_neg c1, Mr8 hm, bs, Ma8 hm hf, bs, hd, if_neg (show ¬ nI d = nI 8 by rw [nI_eq (by omega) (by decide)]; omega), pk_mul, nI_add, nI_add, nI_add, nI_add]
      have bad : aOK (fb σ f n) n p = false → ∃ σ', mfr f σ σ' ∧ (∀ i, i < 8 * f + d → gA σ' 9 i = gA σ 9 i ∧ gA σ' 10 i = gA σ 10 i ∧ gA σ' 12 i = gA σ 12 i) ∧ (∀ i, gA σ' 11 i = gA σ 11 i) ∧ (some (nI 0, mh m h σ) : Option (Int32 × px_H)) = some (bI (if aOK (fb σ f n) n p = true then (ams (fb σ f n) n c (aX (fb σ f n) p)).map (fun l => (p + 60, aV (fb σ f n) p, decide (fb σ f n p = 47)) :: l) else none).isSome, mh m h σ') ∧ ∀ l, (if aOK (fb σ f n) n p = true then (ams (fb σ f n) n c (aX (fb σ f n) p)).map (fun l => (p + 60, aV (fb σ f n) p, decide (fb σ f n p = 47)) :: l) else none) = some l → mrow σ' f d l ∧ gA σ' 8 f = nI (d + l.length) := by
        intro hbad
        rw [hbad, if_neg (by decide)]
        exact ⟨σ, mfr_refl f σ, fun _ _ => ⟨rfl, rfl, rfl⟩, fun _ => rfl, rfl, fun l hl => nomatch hl⟩
      by_cases c2 : p + 60 ≤ n
      · rw [if_pos (nI_le c2 (by omega)), Mr6 hm, bs, Ma6 hm (by omega), bs]
        simp only [isB_eq (hB (8192 * f + p + 58)) (show 96 < 128 by decide)]
        by_cases c3 : b8 (gA σ 6 (8192 * f + p + 58)) = 96
        · rw [if_pos c3, bs, Ma6 hm (by omega), bs]
          simp only [isB_eq (hB (8192 * f + p + 59)) (show 10 < 128 by decide)]
          by_cases c4 : b8 (gA σ 6 (8192 * f + p + 59)) = 10
          · rw [if_pos c4, q_isMembers_76 hm hB hF hf c2 hn 10 0 F 0 rfl hF (by decide), f_M_isMembers_152, Nat.add_zero, Nat.zero_add, show dr (fb σ f n) (p + 48) 10 = aK (fb σ f n) p from rfl, show dv (fb σ f n) (p + 48) (aK (fb σ f n) p) 0 = aV (fb σ f n) p from rfl, show (0 : Int32) = nI 0 from rfl]
            have hK : aK (fb σ f n) p ≤ 10 := dr_le _ _ _
            simp only [nI_eq (show aK (fb σ f n) p < 2 ^ 31 by omega) (show 0 < 2 ^ 31 by decide)]
            by_cases c5 : aK (fb σ f n) p = 0
            · rw [if_pos c5]
              exact bad (aOK_not (fun q => by have := q.2.2.2.1; omega))
            · rw [if_neg c5, q_isMembers_159 hm hB hf c2 hn _ (10 - aK (fb σ f n) p) (aK (fb σ f n) p) F (by omega) (by omega)]
              by_cases c6 : al (fun x => decide (fb σ f n x = 32)) (p + 48 + aK (fb σ f n) p) (10 - aK (fb σ f n) p) = true
              · rw [if_pos c6]
                unfold f_M_isMembers_192
                rw [nI_add, pk_sub c2, nI_l (by omega)]
                simp only [pk_lLE (show aV (fb σ f n) p < 2 ^ 63 from Nat.lt_of_lt_of_le hbV (by decide)) (show n - (p + 60) < 2 ^ 63 by omega)]
                by_cases c7 : aV (fb σ f n) p ≤ n - (p + 60)
                · have hV : aV (fb σ f n) p ≤ 8192 := by omega
                  rw [if_pos c7, Mr8 hm, bs, Ma8 hm hf, bs, hd, Mr9 hm, bs, pk_mul, nI_add, pk_mul, nI_add, Ms9 hm (by omega), bs, Mr10 hm, bs, lN_i, Ms10 hm (by omega), bs, Mr12 hm, bs, Mr6 hm, bs, Ma6 hm (by omega), bs]
                  have e47 : gA (sA (sA σ 9 (upd (gA σ 9) (8 * f + d) (nI (8192 * f + (p + 60))))) 10 (upd (gA (sA σ 9 (upd (gA σ 9) (8 * f + d) (nI (8192 * f + (p + 60))))) 10) (8 * f + d) (nI (aV (fb σ f n) p)))) 6 (8192 * f + p) = nI 47 ↔ decide (fb σ f n p = 47) = true := (isB_eq (hB (8192 * f + p)) (show 47 < 128 by decide)).trans (by rw [decide_eq_true_iff, eb p (by omega)])
                  rw [ite_b e47 (fun w => f_M_isMembers_267 F (f_M_isMembers_3 F g) m (nI f) (nI n) (nI (p + 60)) (lN (aV (fb σ f n) p)) (m + 9) (nI (8 * f + d)) w (mh m h (sA (sA σ 9 (upd (gA σ 9) (8 * f + d) (nI (8192 * f + (p + 60))))) 10 (upd (gA (sA σ 9 (upd (gA σ 9) (8 * f + d) (nI (8192 * f + (p + 60))))) 10) (8 * f + d) (nI (aV (fb σ f n) p))))))]
                  unfold f_M_isMembers_267
                  rw [z_and, Ms12 hm (by omega), bs, Mr8 hm, bs, Ma8 hm hf, bs, show gA (sA (sA (sA σ 9 (upd (gA σ 9) (8 * f + d) (nI (8192 * f + (p + 60))))) 10 (upd (gA (sA σ 9 (upd (gA σ 9) (8 * f + d) (nI (8192 * f + (p + 60))))) 10) (8 * f + d) (nI (aV (fb σ f n) p)))) 12 (upd (gA (sA (sA σ 9 (upd (gA σ 9) (8 * f + d) (nI (8192 * f + (p + 60))))) 10 (upd (gA (sA σ 9 (upd (gA σ 9) (8 * f + d) (nI (8192 * f + (p + 60))))) 10) (8 * f + d) (nI (aV (fb σ f n) p)))) 12) (8 * f + d) (bI (decide (fb σ f n p = 47))))) 8 f = nI d from hd, nI_add, Ms8 hm hf, bs]
                  rw [show sA (sA (sA (sA σ 9 (upd (gA σ 9) (8 * f + d) (nI (8192 * f + (p + 60))))) 10 (upd (gA (sA σ 9 (upd (gA σ 9) (8 * f + d) (nI (8192 * f + (p + 60))))) 10) (8 * f + d) (nI (aV (fb σ f n) p)))) 12 (upd (gA (sA (sA σ 9 (upd (gA σ 9) (8 * f + d) (nI (8192 * f + (p + 60))))) 10 (upd (gA (sA σ 9 (upd (gA σ 9) (8 * f + d) (nI (8192 * f + (p + 60))))) 10) (8 * f + d) (nI (aV (fb σ f n) p)))) 12) (8 * f + d) (bI (decide (fb σ f n p = 47))))) 8 (upd (gA (sA (sA (sA σ 9 (upd (gA σ 9) (8 * f + d) (nI (8192 * f + (p + 60))))) 10 (upd (gA (sA σ 9 (upd (gA σ 9) (8 * f + d) (nI (8192 * f + (p + 60))))) 10) (8 * f + d) (nI (aV (fb σ f n) p)))) 12 (upd (gA (sA (sA σ 9 (upd (gA σ 9) (8 * f + d) (nI (8192 * f + (p + 60))))) 10 (upd (gA (sA σ 9 (upd (gA σ 9) (8 * f + d) (nI (8192 * f + (p + 60))))) 10) (8 * f + d) (nI (aV (fb σ f n) p)))) 12) (8 * f + d) (bI (decide (fb σ f n p = 47))))) 8) f (nI (d + 1))) = mput σ f d (8192 * f + (p + 60)) (aV (fb σ f n) p) (decide (fb σ f n p = 47)) from rfl]
                  have fr := mput_fr (σ := σ) (f := f) (c := d) (a := 8192 * f + (p + 60)) (s := aV (fb σ f n) p) (z := decide (fb σ f n p = 47)) (by omega)
                  have lo : ∀ i, i < 8 * f + d → gA (mput σ f d (8192 * f + (p + 60)) (aV (fb σ f n) p) (decide (fb σ f n p = 47))) 9 i = gA σ 9 i ∧ gA (mput σ f d (8192 * f + (p + 60)) (aV (fb σ f n) p) (decide (fb σ f n p = 47))) 10 i = gA σ 10 i ∧ gA (mput σ f d (8192 * f + (p + 60)) (aV (fb σ f n) p) (decide (fb σ f n p = 47))) 12 i = gA σ 12 i := fun i hi => ⟨upd_ne (by omega), upd_ne (by omega), upd_ne (by omega)⟩
                  have good : aOK (fb σ f n) n p = true → p + 60 + aV (fb σ f n) p + aV (fb σ f n) p % 2 ≤ n → ∃ σ', mfr f σ σ' ∧ (∀ i, i < 8 * f + d → gA σ' 9 i = gA σ 9 i ∧ gA σ' 10 i = gA σ 10 i ∧ gA σ' 12 i = gA σ 12 i) ∧ (∀ i, gA σ' 11 i = gA σ 11 i) ∧ f_M_isMembers_3 F g m (nI f) (nI n) (nI (aX (fb σ f n) p)) (mh m h (mput σ f d (8192 * f + (p + 60)) (aV (fb σ f n) p) (decide (fb σ f n p = 47)))) = some (bI (if aOK (fb σ f n) n p = true then (ams (fb σ f n) n c (aX (fb σ f n) p)).map (fun l => (p + 60, aV (fb σ f n) p, decide (fb σ f n p = 47)) :: l) else none).isSome, mh m h σ') ∧ ∀ l, (if aOK (fb σ f n) n p = true then (ams (fb σ f n) n c (aX (fb σ f n) p)).map (fun l => (p + 60, aV (fb σ f n) p, decide (fb σ f n p = 47)) :: l) else none) = some l → mrow σ' f d l ∧ gA σ' 8 f = nI (d + l.length) := by
                    intro hok hx
                    obtain ⟨σ', f1, f2, f3, f4, f5⟩ := ih (d + 1) (aX (fb σ f n) p) g (mput σ f d (8192 * f + (p + 60)) (aV (fb σ f n) p) (decide (fb σ f n p = 47))) hm hB upd_eq (by omega) hx (by omega)
                    refine ⟨σ', mfr_trans fr f1, fun i hi => ⟨(f2 i (by omega)).1.trans (lo i hi).1, (f2 i (by omega)).2.1.trans (lo i hi).2.1, (f2 i (by omega)).2.2.trans (lo i hi).2.2⟩, f3, ?_, ?_⟩
                    · rw [f4, if_pos hok, Option.isSome_map]
                      rfl
                    · intro l hl
                      rw [if_pos hok] at hl
                      obtain ⟨l', e1, e2⟩ := Option.map_eq_some_iff.mp hl
                      subst e2
                      have f6 := f5 l' e1
                      refine ⟨⟨⟨?_, ?_, ?_⟩, f6.1⟩, ?_⟩
                      · rw [(f2 (8 * f + d) (by omega)).1]; exact upd_eq
                      · rw [(f2 (8 * f + d) (by omega)).2.1]; exact upd_eq
                      · rw [(f2 (8 * f + d) (by omega)).2.2]; exact upd_eq
                      · rw [f6.2, List.length_cons, Nat.add_assoc, Nat.add_comm 1]
                  have hV63 : aV (fb σ f n) p < 2 ^ 63 := by omega
                  simp only [lk, pk_lRem hV63 (show 0 < 2 by decide) (show 2 < 2 ^ 63 by decide), lEQ (show aV (fb σ f n) p % 2 < 2 ^ 64 by omega) (show 0 < 2 ^ 64 by decide), lN_i, nI_add, pk_mul]
                  by_cases c8 : aV (fb σ f n) p % 2 = 0
                  · rw [if_pos c8]
                    have hx : aX (fb σ f n) p = p + 60 + aV (fb σ f n) p := by unfold aX; omega
                    have hok := aOK_yes (b := fb σ f n) (n := n) (p := p) ⟨c2, by rw [eb _ (by omega)]; exact c3, by rw [eb _ (by omega)]; exact c4, by omega, c6, by omega, Or.inl c8⟩
                    rw [← hx]
                    exact good hok (by omega)
                  · rw [if_neg c8]
                    by_cases c9 : n ≤ p + 60 + aV (fb σ f n) p
                    · rw [if_pos (nI_le c9 (by omega)), aOK_not (fun q => by rcases q.2.2.2.2.2.2 with e | e <;> omega), if_neg (by decide)]
                      exact ⟨_, fr, lo, fun _ => rfl, rfl, fun l hl => nomatch hl⟩
                    · rw [if_neg (nI_ge (by omega) (by omega)), Mr6 hm, bs, Ma6 hm (by omega), bs]
                      have e10 : gA (mput σ f d (8192 * f + (p + 60)) (aV (fb σ f n) p) (decide (fb σ f n p = 47))) 6 (8192 * f + (p + 60 + aV (fb σ f n) p)) = nI 10 ↔ b8 (gA σ 6 (8192 * f + (p + 60 + aV (fb σ f n) p))) = 10 := isB_eq (hB (8192 * f + (p + 60 + aV (fb σ f n) p))) (show 10 < 128 by decide)
                      by_cases c10 : b8 (gA σ 6 (8192 * f + (p + 60 + aV (fb σ f n) p))) = 10
                      · rw [if_pos (e10.mpr c10)]
                        have hx : aX (fb σ f n) p = p + 60 + aV (fb σ f n) p + 1 := by unfold aX; omega
                        have hok := aOK_yes (b := fb σ f n) (n := n) (p := p) ⟨c2, by rw [eb _ (by omega)]; exact c3, by rw [eb _ (by omega)]; exact c4, by omega, c6, by omega, Or.inr ⟨by omega, by rw [eb _ (by omega)]; exact c10⟩⟩
                        rw [← hx]
                        exact good hok (by omega)
                      · rw [if_neg (fun q => c10 (e10.mp q)), aOK_not (fun q => by rcases q.2.2.2.2.2.2 with e | e; omega; exact c10 (by have e2 := e.2; rw [eb _ e.1] at e2; exact e2)), if_neg (by decide)]
                        exact ⟨_, fr, lo, fun _ => rfl, rfl, fun l hl => nomatch hl⟩
                · rw [if_neg c7]
                  exact bad (aOK_not (fun q => c7 (by have := q.2.2.2.2.2.1; omega)))
              · rw [if_neg c6]
                exact bad (aOK_not (fun q => c6 q.2.2.2.2.1))
          · rw [if_neg c4]
            exact bad (aOK_not (fun q => c4 (by have := q.2.2.1; rw [eb _ (by omega)] at this; rw [← this]; congr 2)))
        · rw [if_neg c3]
          exact bad (aOK_not (fun q => c3 (by have := q.2.1; rw [eb _ (by omega)] at this; rw [← this]; congr 2)))
      · rw [if_neg (nI_ge (by omega) (by omega))]
        exact bad (aOK_not (fun q => c2 q.1))
theorem q_isMembers (hF : 10 < F) (hf : f < 8) (hn : n ≤ 8192) (h8 : 8 ≤ n) (σ : px_S) (hm : m ≤ h.length) (hB : ∀ k, isB (gA σ 6 k)) (hd : gA σ 8 f = nI 0) : ∃ σ', mfr f σ σ' ∧ (∀ i, gA σ' 11 i = gA σ 11 i) ∧ f_M_isMembers F m (nI f) (nI n) (mh m h σ) = some (bI (ams (fb σ f n) n 8 8).isSome, mh m h σ') ∧ ∀ l, ams (fb σ f n) n 8 8 = some l → mrow σ' f 0 l ∧ gA σ' 8 f = nI l.length := by
  obtain ⟨σ', f1, f2, f3, f4, f5⟩ := q_isMembers_3 (F := F) (h := h) (m := m) hF hf hn 8 0 8 F σ hm hB hd rfl h8 (by omega)
  refine ⟨σ', f1, f3, f4, fun l hl => ?_⟩
  have := f5 l hl
  rw [Nat.zero_add] at this
  exact this
end MEM
end
section
/-! the reference's fileError and add -/
/-- s bytes from a on -/
def sub (b : Nat → Nat) (a s k : Nat) : Nat := if k < s then b (a + k) else 0
def isAr (b : Nat → Nat) (n : Nat) : Bool := decide (7 < n ∧ le b 0 8 = 738142165265366049)
/-- the members of a file -/
def fMem (b : Nat → Nat) (n : Nat) : Option (List (Nat × Nat × Bool)) := if isAr b n = true then ams b n 8 8 else some [(0, n, false)]
/-- the error of the first member that has one -/
def eMem (b : Nat → Nat) : List (Nat × Nat × Bool) → Nat
  | [] => 0
  | x :: l => if x.2.2 = false ∧ eObj (sub b x.1 x.2.1) x.2.1 ≠ 0 then eObj (sub b x.1 x.2.1) x.2.1 else eMem b l
theorem eMem_s (b : Nat → Nat) (x : Nat × Nat × Bool) (l : List (Nat × Nat × Bool)) : eMem b (x :: l) = if x.2.2 = false ∧ eObj (sub b x.1 x.2.1) x.2.1 ≠ 0 then eObj (sub b x.1 x.2.1) x.2.1 else eMem b l := rfl
/-- the error of a file -/
def eFil (b : Nat → Nat) (n : Nat) : Nat := match fMem b n with
  | none => 8
  | some l => eMem b l
theorem ams_le {b : Nat → Nat} {n : Nat} : ∀ {c p : Nat} {l : List (Nat × Nat × Bool)}, ams b n c p = some l → l.length ≤ c ∧ ∀ x, x ∈ l → x.1 + x.2.1 ≤ n
  | 0, p, l, h => by
    unfold ams at h
    by_cases c : n ≤ p
    · rw [if_pos c] at h; cases h; exact ⟨Nat.le_refl _, fun x hx => nomatch hx⟩
    · rw [if_neg c] at h; cases h
  | c + 1, p, l, h => by
    rw [ams_s] at h
    by_cases c1 : n ≤ p
    · rw [if_pos c1] at h; cases h; exact ⟨Nat.zero_le _, fun x hx => nomatch hx⟩
    · rw [if_neg c1] at h
      by_cases c2 : aOK b n p = true
      · rw [if_pos c2] at h
        obtain ⟨l', e1, e2⟩ := Option.map_eq_some_iff.mp h
        subst e2
        have := ams_le e1
        refine ⟨by rw [List.length_cons]; omega, fun x hx => ?_⟩
        rcases List.mem_cons.mp hx with e | e
        · rw [e]; exact (aOK_p c2).2.2.2.2.1
        · exact this.2 x e
      · rw [if_neg c2] at h; cases h
theorem fMem_le {b : Nat → Nat} {n : Nat} {l : List (Nat × Nat × Bool)} (h : fMem b n = some l) : l.length ≤ 8 ∧ ∀ x, x ∈ l → x.1 + x.2.1 ≤ n := by
  unfold fMem at h
  by_cases c : isAr b n = true
  · rw [if_pos c] at h; exact ams_le h
  · rw [if_neg c] at h
    cases h
    exact ⟨(by decide : 1 ≤ 8), fun x hx => by rw [List.mem_singleton.mp hx]; show 0 + n ≤ n; omega⟩
theorem eObj_le (b : Nat → Nat) (n : Nat) : eObj b n ≤ 9 := by
  have h1 := fst0_le (M := 4) (fun i => eSec_3 b n i) (c := oS b) (i := 0)
  have h2 : eSym b ≤ 6 := by
    unfold eSym
    split
    · decide
    · split
      · decide
      · split
        · split <;> decide
        · decide
  have h3 : eSit b ≤ 7 := by unfold eSit; split <;> decide
  have h4 : eGrp b ≤ 9 := by unfold eGrp; split <;> decide
  unfold eObj
  split
  · decide
  · split
    · decide
    · split
      · omega
      · split
        · omega
        · split <;> omega
theorem eMem_le (b : Nat → Nat) : ∀ l, eMem b l ≤ 9
  | [] => Nat.zero_le _
  | x :: l => by
    rw [eMem_s]
    split
    · exact eObj_le _ _
    · exact eMem_le b l
theorem eFil_le (b : Nat → Nat) (n : Nat) : eFil b n ≤ 9 := by
  unfold eFil
  split
  · decide
  · exact eMem_le b _
section ADD
variable {F : Nat} {h : px_H} {m f n : Nat} {σ : px_S}
theorem cb_sub {B : Nat → Int32} {o n a s : Nat} (hs : a + s ≤ n) : cb B (o + a) s = sub (cb B o n) a s := by
  funext k
  unfold sub
  by_cases c : k < s
  · rw [if_pos c, cb_at c, cb_at (by omega), Nat.add_assoc]
  · rw [if_neg c]
    unfold cb
    rw [if_neg c]
theorem sub_0 {B : Nat → Int32} {o n : Nat} : sub (cb B o n) 0 n = cb B o n := by
  rw [← cb_sub (Nat.le_of_eq (Nat.zero_add n)), Nat.add_zero]
theorem mrow_96 {g : Nat → Int32} : ∀ {l : List (Nat × Nat × Bool)} {c : Nat}, mrow (sA σ 96 g) f c l ↔ mrow σ f c l
  | [], _ => Iff.rfl
  | x :: l, c => by
    unfold mrow
    rw [mrow_96]
    exact Iff.rfl
theorem q_fileError_e {e k g : Nat} (he : 0 < e) (he2 : e ≤ 9) (hm : m ≤ h.length) (hf : f < 8) : f_M_fileError_120 F (g + 1) m (nI f) (nI e) (nI k) (mh m h σ) = some (nI e, mh m h σ) := by
  unfold f_M_fileError_120
  rw [Mr8 hm, bs, Ma8 hm hf, bs, if_neg (show ¬ nI e = 0 from nI_ne0 he (by omega)), ite_self]
  rfl
theorem q_fileError_120 (hF : 65536 < F) (hf : f < 8) (hn : n ≤ 8192) : ∀ (l : List (Nat × Nat × Bool)) (k g : Nat) (σ : px_S), m ≤ h.length → (∀ k, isB (gA σ 6 k)) → mrow σ f k l → gA σ 8 f = nI (k + l.length) → k + l.length ≤ 8 → (∀ x, x ∈ l → x.1 + x.2.1 ≤ n) → l.length + 1 < g → ∃ q, f_M_fileError_120 F g m (nI f) (nI 0) (nI k) (mh m h σ) = some (nI (eMem (fb σ f n) l), mh m h (sA σ 96 q)) := by
  intro l
  induction l with
  | nil =>
    intro k g σ hm hB hr hc hk hx hg
    obtain ⟨g, rfl⟩ : ∃ x, g = x + 1 := ⟨g - 1, by omega⟩
    refine ⟨gA σ 96, ?_⟩
    unfold f_M_fileError_120
    rw [Mr8 hm, bs, Ma8 hm hf, bs, hc, if_pos (nI_le (by simp) (by omega)), sA_self]
    rfl
  | cons x l ih =>
    intro k g σ hm hB hr hc hk hx hg
    rw [List.length_cons] at hc hk hg
    obtain ⟨g, rfl⟩ : ∃ x, g = x + 1 := ⟨g - 1, by omega⟩
    have hx1 := hx x (List.mem_cons_self ..)
    unfold mrow at hr
    obtain ⟨⟨r1, r2, r3⟩, r4⟩ := hr
    unfold f_M_fileError_120
    rw [Mr8 hm, bs, Ma8 hm hf, bs, hc, if_neg (nI_ge (by omega) (by omega)), if_pos (show nI 0 = 0 from rfl), Mr12 hm, bs, pk_mul, nI_add, Ma12 hm (by omega), bs, r3, Mr9 hm, bs, Ma9 hm (by omega), bs, r1, Mr10 hm, bs, Ma10 hm (by omega), bs, r2, e_o hm, bs]
    simp only [f_M_fileError_173, nI_add]
    rw [show (0 : Int32) = nI 0 from rfl]
    simp only [bI_0]
    rw [eMem_s]
    by_cases c1 : x.2.2 = false
    · rw [if_pos c1]
      obtain ⟨q, e⟩ := q_objectError (F := F) (h := h) (σ := σ) (o := 8192 * f + x.1) (n := x.2.1) hF hm hB (by omega)
      rw [e, xb_mk, cb_sub hx1]
      rw [show cb (gA σ 6) (8192 * f) n = fb σ f n from rfl]
      have h9 := eObj_le (sub (fb σ f n) x.1 x.2.1) x.2.1
      by_cases c2 : eObj (sub (fb σ f n) x.1 x.2.1) x.2.1 = 0
      · rw [c2, if_neg (fun q => q.2 rfl)]
        obtain ⟨q2, e2⟩ := ih (k + 1) g (sA σ 96 q) hm hB (mrow_96.mpr r4) (by rw [show gA (sA σ 96 q) 8 f = gA σ 8 f from rfl, hc]; congr 1; omega) (by omega) (fun y hy => hx y (List.mem_cons_of_mem _ hy)) (by omega)
        exact ⟨q2, by rw [e2, sA_sA]; rfl⟩
      · rw [if_pos ⟨c1, c2⟩]
        obtain ⟨g, rfl⟩ : ∃ x, g = x + 1 := ⟨g - 1, by omega⟩
        exact ⟨q, q_fileError_e (by omega) h9 hm hf⟩
    · rw [if_neg c1, if_neg (fun q => c1 q.1)]
      exact ih (k + 1) g σ hm hB r4 (by rw [hc]; congr 1; omega) (by omega) (fun y hy => hx y (List.mem_cons_of_mem _ hy)) (by omega)
theorem fst_up {σ : px_S} {v : Int32} : mfr f σ (sA σ 8 (upd (gA σ 8) f v)) := by
  refine ⟨fun _ => rfl, fun _ => rfl, fun _ => rfl, ?_, ?_, ?_⟩
  · intro k h8 _ _ _ _ _
    rw [gA_sA, if_neg h8]
  · intro i hi
    refine ⟨?_, rfl⟩
    show upd (gA σ 8) f v i = _
    exact upd_ne hi
  · intro i hi
    exact ⟨rfl, rfl, rfl⟩
theorem fst_11 {σ : px_S} {v : Int32} : mfr f σ (sA σ 11 (upd (gA σ 11) f v)) := by
  refine ⟨fun _ => rfl, fun _ => rfl, fun _ => rfl, ?_, ?_, ?_⟩
  · intro k _ _ _ h11 _ _
    rw [gA_sA, if_neg h11]
  · intro i hi
    refine ⟨rfl, ?_⟩
    show upd (gA σ 11) f v i = _
    exact upd_ne hi
  · intro i hi
    exact ⟨rfl, rfl, rfl⟩
theorem mfr_6 {σ σ' : px_S} (hq : mfr f σ σ') : gA σ' 6 = gA σ 6 := hq.2.2.2.1 6 (by decide) (by decide) (by decide) (by decide) (by decide) (by decide)
theorem q_fileError_41 (hF : 65536 < F) (hf : f < 8) (hn : n ≤ 8192) (hm : m ≤ h.length) (hB : ∀ k, isB (gA σ 6 k)) (hd : gA σ 8 f = nI 0) : ∃ σ', mfr f σ σ' ∧ f_M_fileError_41 F m (nI f) (nI n) (m + 8) (nI f) (bI (isAr (fb σ f n) n)) (mh m h σ) = some (nI (eFil (fb σ f n) n), mh m h σ') ∧ gA σ' 11 f = bI (isAr (fb σ f n) n) ∧ ∀ l, fMem (fb σ f n) n = some l → mrow σ' f 0 l ∧ gA σ' 8 f = nI l.length := by
  unfold f_M_fileError_41
  rw [z_and, Ms11 hm hf, bs, Mr11 hm, bs, Ma11 hm hf, bs]
  have e11 : gA (sA σ 11 (upd (gA σ 11) f (bI (isAr (fb σ f n) n)))) 11 f = bI (isAr (fb σ f n) n) := upd_eq
  rw [e11, show (0 : Int32) = nI 0 from rfl]
  have fr1 : mfr f σ (sA σ 11 (upd (gA σ 11) f (bI (isAr (fb σ f n) n)))) := fst_11
  simp only [bI_0]
  by_cases c1 : isAr (fb σ f n) n = true
  · rw [if_neg (show ¬ isAr (fb σ f n) n = false by rw [c1]; decide), e_o hm, bs]
    have h8 : 7 < n := (of_decide_eq_true c1).1
    obtain ⟨σ2, f1, f2, f3, f4⟩ := q_isMembers (F := F) (h := h) (m := m) (f := f) (n := n) (by omega) hf hn (by omega) (sA σ 11 (upd (gA σ 11) f (bI (isAr (fb σ f n) n)))) hm hB hd
    rw [f3, xb_mk]
    rw [show fb (sA σ 11 (upd (gA σ 11) f (bI (isAr (fb σ f n) n)))) f n = fb σ f n from rfl] at f4 ⊢
    have hM : fMem (fb σ f n) n = ams (fb σ f n) n 8 8 := if_pos c1
    have h11 : gA σ2 11 f = bI (isAr (fb σ f n) n) := (f2 f).trans e11
    unfold eFil
    rw [hM]
    cases hq : ams (fb σ f n) n 8 8 with
    | none =>
      refine ⟨σ2, mfr_trans fr1 f1, ?_, h11, fun l hl => nomatch hl⟩
      rfl
    | some l =>
      have h5 := ams_le hq
      have h6 := f4 l hq
      have e6 : gA σ2 6 = gA σ 6 := mfr_6 (mfr_trans fr1 f1)
      obtain ⟨q, e⟩ := q_fileError_120 (F := F) (h := h) (m := m) (f := f) (n := n) hF hf hn l 0 F σ2 hm (by rw [e6]; exact hB) h6.1 (by rw [h6.2, Nat.zero_add]) (by omega) h5.2 (by omega)
      refine ⟨sA σ2 96 q, mfr_trans (mfr_trans fr1 f1) (mfr_96 f σ2 q), ?_, h11, ?_⟩
      · rw [show (some l).isSome = true from rfl, if_neg (show ¬ bI true = nI 0 by decide), e]
        unfold fb
        rw [e6]
      · intro l' hl'
        cases hl'
        exact ⟨mrow_96.mpr h6.1, h6.2⟩
  · have c2 := Bool.eq_false_iff.mpr c1
    rw [if_pos c2, Mr8 hm, bs, Ms8 hm hf, bs, Mr9 hm, bs, pk_mul, pk_mul, Ms9 hm (by omega), bs, Mr10 hm, bs, Ms10 hm (by omega), bs, Mr12 hm, bs, z_0, Ms12 hm (by omega), bs, e_o hm, bs]
    have h1 : ∃ σ', σ' = sA (sA (sA (sA (sA σ 11 (upd (gA σ 11) f (bI (isAr (fb σ f n) n)))) 8 (upd (gA σ 8) f (nI 1))) 9 (upd (gA σ 9) (8 * f) (nI (8192 * f)))) 10 (upd (gA σ 10) (8 * f) (nI n))) 12 (upd (gA σ 12) (8 * f) (bI false)) := ⟨_, rfl⟩
    obtain ⟨σ', hσ⟩ := h1
    have e6 : gA σ' 6 = gA σ 6 := by rw [hσ]; rfl
    obtain ⟨q, e⟩ := q_objectError (F := F) (h := h) (m := m) (σ := σ') (o := 8192 * f) (n := n) hF hm (by rw [e6]; exact hB) (by omega)
    rw [hσ] at e
    have fr : mfr f σ σ' := by
      rw [hσ]
      refine ⟨fun _ => rfl, fun _ => rfl, fun _ => rfl, ?_, ?_, ?_⟩
      · intro k h8 h9 h10 h11 h12 _
        rw [gA_sA, if_neg h12, gA_sA, if_neg h10, gA_sA, if_neg h9, gA_sA, if_neg h8, gA_sA, if_neg h11]
      · intro i hi
        exact ⟨upd_ne hi, upd_ne hi⟩
      · intro i hi
        have : i ≠ 8 * f := by omega
        exact ⟨upd_ne this, upd_ne this, upd_ne this⟩
    have hM : fMem (fb σ f n) n = some [(0, n, false)] := if_neg c1
    have hE : eFil (fb σ f n) n = eObj (fb σ f n) n := by
      unfold eFil
      rw [hM]
      show eMem (fb σ f n) [(0, n, false)] = _
      rw [eMem_s]
      rw [show sub (fb σ f n) (0, n, false).1 (0, n, false).2.1 = fb σ f n from sub_0]
      show (if false = false ∧ eObj (fb σ f n) n ≠ 0 then eObj (fb σ f n) n else 0) = _
      by_cases c : eObj (fb σ f n) n = 0
      · rw [if_neg (fun q => q.2 c), c]
      · rw [if_pos ⟨rfl, c⟩]
    refine ⟨sA σ' 96 q, mfr_trans fr (mfr_96 f σ' q), ?_, ?_, ?_⟩
    · rw [hE, hσ]
      refine (congrArg (fun z => xb z (fun t14 ph15 => some (t14, ph15))) e).trans ?_
      rw [xb_mk]
      rfl
    · rw [hσ]; exact upd_eq
    · intro l hl
      rw [hM] at hl
      cases hl
      rw [hσ]
      exact ⟨⟨⟨upd_eq, upd_eq, upd_eq⟩, trivial⟩, upd_eq⟩
theorem q_fileError (hF : 65536 < F) (hf : f < 8) (hn : n ≤ 8192) (hm : m ≤ h.length) (hB : ∀ k, isB (gA σ 6 k)) : ∃ σ', mfr f σ σ' ∧ f_M_fileError F m (nI f) (nI n) (mh m h σ) = some (nI (eFil (fb σ f n) n), mh m h σ') ∧ gA σ' 11 f = bI (isAr (fb σ f n) n) ∧ ∀ l, fMem (fb σ f n) n = some l → mrow σ' f 0 l ∧ gA σ' 8 f = nI l.length := by
  unfold f_M_fileError f_M_fileError_40
  rw [Mr8 hm, bs, Ms8 hm hf, bs, Mr11 hm, bs]
  obtain ⟨σ2, f1, f2, f3, f4⟩ := q_fileError_41 (F := F) (h := h) (m := m) (σ := sA σ 8 (upd (gA σ 8) f (nI 0))) (n := n) hF hf hn hm hB upd_eq
  refine ⟨σ2, mfr_trans fst_up f1, ?_, f3, f4⟩
  refine Eq.trans ?_ f2
  have eb : fb (sA σ 8 (upd (gA σ 8) f (nI 0))) f n = fb σ f n := rfl
  by_cases c1 : n ≤ 7
  · rw [if_pos (nI_le c1 (by decide)), show isAr (fb (sA σ 8 (upd (gA σ 8) f (nI 0))) f n) n = false from decide_eq_false (fun q => by have := q.1; omega)]
    rfl
  · have hb : mb (mh m h (sA σ 8 (upd (gA σ 8) f (nI 0)))) m (gA σ 6) := Mmb hm hB
    have hL : le (fb σ f n) 0 8 < 2 ^ 64 := le_lt (cb_lt (gA σ 6) (8192 * f) n) 0 8
    have e := q_numo (F := F) (o := 8192 * f) (x := 0) (k := 8) (n := n) hb (by omega) (by decide) (by omega) (by omega)
    rw [Nat.add_zero] at e
    rw [if_neg (nI_ge (by omega) (by omega)), e_o hm, bs, pk_mul, e, xb_mk, show cb (gA σ 6) (8192 * f) n = fb σ f n from rfl, show (738142165265366049 : Int64) = lN 738142165265366049 from rfl]
    simp only [lEQ hL (show 738142165265366049 < 2 ^ 64 by decide)]
    rw [eb]
    by_cases c2 : le (fb σ f n) 0 8 = 738142165265366049
    · rw [if_pos c2, show isAr (fb σ f n) n = true from decide_eq_true ⟨by omega, c2⟩]
      rfl
    · rw [if_neg c2, show isAr (fb σ f n) n = false from decide_eq_false (fun q => c2 q.2)]
      rfl
/-- the n bytes of the tape behind those that are there at o -/
def put (B T : Nat → Int32) (o n x : Nat) : Int32 := if o ≤ x ∧ x < o + n then T (x - o) else B x
theorem put_0 (B T : Nat → Int32) (o : Nat) : put B T o 0 = B := by
  funext x
  exact if_neg (by omega)
theorem put_s (B T : Nat → Int32) (o n : Nat) : upd (put B T o n) (o + n) (T n) = put B T o (n + 1) := by
  funext x
  unfold upd put
  by_cases c : x = o + n
  · rw [if_pos c, if_pos (by omega), c, Nat.add_sub_cancel_left]
  · rw [if_neg c]
    by_cases c2 : o ≤ x ∧ x < o + n
    · rw [if_pos c2, if_pos (by omega)]
    · rw [if_neg c2, if_neg (by omega)]
theorem isB_n {x : Int32} (h : isB x) : x.toInt8.toInt32 = x := by
  have h1 : ∀ n, n < 256 → (nI n).toInt8.toInt32.toInt8.toInt32 = (nI n).toInt8.toInt32 := by decide +kernel
  have h2 := h1 _ (b8_lt x)
  rw [← h] at h2
  exact h2
theorem q_add_31 (hm : m ≤ h.length) (hf : f < 8) (hn : n ≤ 8192) : ∀ (c k g : Nat) (σ : px_S) (B : Nat → Int32), k + c = n → c < g → gI σ 5 = nI f → (∀ k, isB (gA σ 1 k)) → gA σ 6 = put B (gA σ 1) (8192 * f) k → f_M_add_31 F g m (nI n) (nI k) (mh m h σ) = f_M_add_63 F m (nI n) (mh m h (sA σ 6 (put B (gA σ 1) (8192 * f) n))) := by
  intro c
  induction c with
  | zero =>
    intro k g σ B hk hg h5 hB h6
    obtain ⟨g, rfl⟩ : ∃ x, g = x + 1 := ⟨g - 1, by omega⟩
    unfold f_M_add_31
    rw [if_pos (nI_le (by omega) (by omega)), show n = k by omega, ← h6, sA_self]
  | succ c ih =>
    intro k g σ B hk hg h5 hB h6
    obtain ⟨g, rfl⟩ : ∃ x, g = x + 1 := ⟨g - 1, by omega⟩
    unfold f_M_add_31
    rw [if_neg (nI_ge (by omega) (by omega)), Mr6 hm, bs, Mg5 hm, bs, h5, Mr1 hm, bs, Ma1 hm (by omega), bs, pk_mul, nI_add, isB_n (hB k), Ms6 hm (by omega), bs, h6, put_s, nI_add, ih (k + 1) g (sA σ 6 (put B (gA σ 1) (8192 * f) (k + 1))) B (by omega) (by omega) h5 hB rfl, sA_sA]
    rfl
end ADD
end
section
/-! what the reference's state says: tape, files -/
/-- the tape: n bytes b -/
def RT (σ : px_S) (n : Nat) (b : Nat → Nat) : Prop := gI σ 2 = nI n ∧ n ≤ 8192 ∧ (∀ k, isB (gA σ 1 k)) ∧ cb (gA σ 1) 0 n = b
/-- file f: n bytes b, and what was read of them -/
def RF1 (σ : px_S) (f n : Nat) (b : Nat → Nat) : Prop := n ≤ 8192 ∧ fb σ f n = b ∧ eFil b n = 0 ∧ gA σ 11 f = bI (isAr b n) ∧ ∃ l, fMem b n = some l ∧ mrow σ f 0 l ∧ gA σ 8 f = nI l.length
/-- the files -/
def RF (σ : px_S) (fs : List (Nat × (Nat → Nat))) : Prop := gI σ 5 = nI fs.length ∧ fs.length ≤ 8 ∧ (∀ k, isB (gA σ 6 k)) ∧ ∀ f x, fs[f]? = some x → RF1 σ f x.1 x.2
/-- nothing has changed but what add changes -/
def frA (σ σ' : px_S) : Prop := (∀ k, k ≠ 0 → k ≠ 2 → k ≠ 5 → gI σ' k = gI σ k) ∧ (∀ k, gJ σ' k = gJ σ k) ∧ (∀ k, gB σ' k = gB σ k) ∧ (∀ k, k ≠ 6 → k ≠ 7 → k ≠ 8 → k ≠ 9 → k ≠ 10 → k ≠ 11 → k ≠ 12 → k ≠ 19 → k ≠ 96 → gA σ' k = gA σ k)
theorem mrow_eq {σ σ' : px_S} {f : Nat} (h9 : ∀ i, 8 * f ≤ i → i < 8 * f + 8 → gA σ' 9 i = gA σ 9 i ∧ gA σ' 10 i = gA σ 10 i ∧ gA σ' 12 i = gA σ 12 i) : ∀ {l : List (Nat × Nat × Bool)} {c : Nat}, c + l.length ≤ 8 → mrow σ f c l → mrow σ' f c l
  | [], _, _, _ => trivial
  | x :: l, c, hc, h => by
    rw [List.length_cons] at hc
    unfold mrow at h ⊢
    have e := h9 (8 * f + c) (by omega) (by omega)
    rw [e.1, e.2.1, e.2.2]
    exact ⟨h.1, mrow_eq h9 (by omega) h.2⟩
theorem put_cb {B T : Nat → Int32} {o n o' n' : Nat} (h : o' + n' ≤ o) : cb (put B T o n) o' n' = cb B o' n' := by
  funext k
  unfold cb
  by_cases c : k < n'
  · rw [if_pos c, if_pos c]
    unfold put
    rw [if_neg (by omega)]
  · rw [if_neg c, if_neg c]
theorem put_same {B T : Nat → Int32} {o n : Nat} : cb (put B T o n) o n = cb T 0 n := by
  funext k
  unfold cb
  by_cases c : k < n
  · rw [if_pos c, if_pos c]
    unfold put
    rw [if_pos (by omega), Nat.add_sub_cancel_left, Nat.zero_add]
  · rw [if_neg c, if_neg c]
theorem put_B {B T : Nat → Int32} {o n : Nat} (hB : ∀ k, isB (B k)) (hT : ∀ k, isB (T k)) (k : Nat) : isB (put B T o n k) := by
  unfold put
  split
  · exact hT _
  · exact hB _
/-- a file's row holds on where nothing of it changes -/
theorem RF1_eq {σ σ' : px_S} {f n : Nat} {b : Nat → Nat} (h : RF1 σ f n b) (h6 : fb σ' f n = fb σ f n) (h8 : gA σ' 8 f = gA σ 8 f) (h11 : gA σ' 11 f = gA σ 11 f) (h9 : ∀ i, 8 * f ≤ i → i < 8 * f + 8 → gA σ' 9 i = gA σ 9 i ∧ gA σ' 10 i = gA σ 10 i ∧ gA σ' 12 i = gA σ 12 i) : RF1 σ' f n b := by
  obtain ⟨a1, a2, a3, a4, l, a5, a6, a7⟩ := h
  exact ⟨a1, h6.trans a2, a3, h11.trans a4, l, a5, mrow_eq h9 (by rw [Nat.zero_add]; exact (fMem_le a5).1) a6, h8.trans a7⟩
section ADD2
variable {F : Nat} {h : px_H} {m : Nat} {σ : px_S}
/-- the exceptions' code -/
def thr (a b : Bool) : Nat := if a = true then 1 else if b = true then 2 else 0
theorem q_throwing (hm : m ≤ h.length) (a b : Bool) : f_M_throwing F m (bI a) (bI b) (mh m h σ) = some (bI (a || b), mh m h (sI σ 0 (nI (thr a b)))) := by
  unfold f_M_throwing f_M_throwing_18 f_M_throwing_33 thr
  cases a with
  | true =>
    rw [if_neg (show ¬ bI true = 0 by decide), Mp0 hm, bs, Mg0 hm, bs, gI_sI, if_pos rfl, if_neg (by decide), xz_1]
    rfl
  | false =>
    cases b with
    | true =>
      rw [if_pos (show bI false = 0 from rfl), if_neg (show ¬ bI true = 0 by decide), Mp0 hm, bs, Mg0 hm, bs, gI_sI, if_pos rfl, if_neg (by decide), xz_1]
      rfl
    | false =>
      rw [if_pos (show bI false = 0 from rfl), if_pos (show bI false = 0 from rfl), Mp0 hm, bs, Mg0 hm, bs, gI_sI, if_pos rfl, if_pos (by decide), xz_0]
      rfl
theorem q_add {n : Nat} {b : Nat → Nat} {fs : List (Nat × (Nat → Nat))} (hF : 65536 < F) (hm : m ≤ h.length) (ht : RT σ n b) (hr : RF σ fs) : ∃ σ', f_M_add F m (mh m h σ) = some (nI (if fs.length = 8 then 0 else eFil b n), mh m h σ') ∧ frA σ σ' ∧ gI σ' 0 = nI (if fs.length = 8 then 1 else 0) ∧ (if fs.length = 8 then RT σ' n b ∧ RF σ' fs ∧ (∀ i, gA σ' 19 i = gA σ 19 i) else RT σ' 0 (fun _ => 0) ∧ (if eFil b n = 0 then RF σ' (fs ++ [(n, b)]) ∧ gA σ' 19 fs.length = nI 0 ∧ ∀ i, i ≠ fs.length → gA σ' 19 i = gA σ 19 i else RF σ' fs ∧ ∀ i, gA σ' 19 i = gA σ 19 i)) := by
  obtain ⟨t1, t2, t3, t4⟩ := ht
  obtain ⟨r1, r2, r3, r4⟩ := hr
  unfold f_M_add
  rw [Mg5 hm, bs, r1]
  simp only [nI_eq (show fs.length < 2 ^ 31 by omega) (show 8 < 2 ^ 31 by decide)]
  by_cases c1 : fs.length = 8
  · rw [if_pos c1, if_pos c1, if_pos c1]
    unfold f_M_add_15
    rw [e_o hm, bs, show nI 1 = bI true from rfl, show nI 0 = bI false from rfl, q_throwing hm true false, xb_mk, if_neg (show ¬ bI (true || false) = 0 by decide)]
    refine ⟨_, rfl, ⟨fun k h0 _ _ => by rw [gI_sI, if_neg h0], fun _ => rfl, fun _ => rfl, fun _ _ _ _ _ _ _ _ _ _ => rfl⟩, rfl, ?_⟩
    rw [if_pos c1]
    exact ⟨⟨t1, t2, t3, t4⟩, ⟨r1, r2, r3, fun f x hx => RF1_eq (r4 f x hx) rfl rfl rfl (fun _ _ _ => ⟨rfl, rfl, rfl⟩)⟩, fun _ => rfl⟩
  · have hf : fs.length < 8 := by omega
    rw [if_neg c1, if_neg c1, if_neg c1]
    unfold f_M_add_15
    rw [e_o hm, bs, show nI 0 = bI false from rfl, q_throwing hm false false, xb_mk, if_pos (show bI (false || false) = 0 from rfl), Mg2 hm, bs, show gI (sI σ 0 (nI (thr false false))) 2 = nI n from t1, show bI false = nI 0 from rfl]
    rw [q_add_31 (F := F) (h := h) hm hf t2 n 0 F (sI σ 0 (nI (thr false false))) (gA σ 6) (by omega) (by omega) r1 t3 (put_0 _ _ _).symm]
    unfold f_M_add_63
    rw [Mp2 hm, bs, Mg5 hm, bs, e_o hm, bs]
    obtain ⟨σ1, hσ1⟩ : ∃ s, s = sI (sA (sI σ 0 (nI (thr false false))) 6 (put (gA σ 6) (gA σ 1) (8192 * fs.length) n)) 2 (nI 0) := ⟨_, rfl⟩
    have g5 : gI σ1 5 = nI fs.length := by rw [hσ1]; exact r1
    have g6 : gA σ1 6 = put (gA σ 6) (gA σ 1) (8192 * fs.length) n := by rw [hσ1]; rfl
    have gB6 : ∀ k, isB (gA σ1 6 k) := by rw [g6]; exact put_B r3 t3
    have gfb : fb σ1 fs.length n = b := by
      unfold fb
      rw [g6, put_same]
      exact t4
    obtain ⟨σ2, f1, f2, f3, f4⟩ := q_fileError (F := F) (h := h) (m := m) (f := fs.length) (n := n) (σ := σ1) hF hf t2 hm gB6
    rw [gfb] at f2 f3 f4
    have hh : mh m h (sI (sA (sI σ 0 (nI (thr false false))) 6 (put (gA σ 6) (gA (sI σ 0 (nI (thr false false))) 1) (8192 * fs.length) n)) 2 (nI 0)) = mh m h σ1 := by rw [hσ1]; rfl
    rw [hh, show gI (sI (sA (sI σ 0 (nI (thr false false))) 6 (put (gA σ 6) (gA (sI σ 0 (nI (thr false false))) 1) (8192 * fs.length) n)) 2 (nI 0)) 5 = nI fs.length from r1, f2, xb_mk, show (0 : Int32) = nI 0 from rfl]
    have e9 := eFil_le b n
    have e5 : gI σ2 5 = nI fs.length := (f1.1 5).trans g5
    have e6 : gA σ2 6 = put (gA σ 6) (gA σ 1) (8192 * fs.length) n := (mfr_6 f1).trans g6
    have old : ∀ f x, fs[f]? = some x → RF1 σ2 f x.1 x.2 := by
      intro f x hx
      have hfl : f < fs.length := (List.getElem?_eq_some_iff.mp hx).1
      have hr := r4 f x hx
      refine RF1_eq hr ?_ ?_ ?_ ?_
      · unfold fb
        rw [e6, put_cb (by have := hr.1; omega)]
      · rw [(f1.2.2.2.2.1 f (by omega)).1, hσ1]; rfl
      · rw [(f1.2.2.2.2.1 f (by omega)).2, hσ1]; rfl
      · intro i h1 h2
        have := f1.2.2.2.2.2 i (Or.inl (by omega))
        rw [this.1, this.2.1, this.2.2, hσ1]
        exact ⟨rfl, rfl, rfl⟩
    have fr2 : ∀ k, k ≠ 6 → k ≠ 8 → k ≠ 9 → k ≠ 10 → k ≠ 11 → k ≠ 12 → k ≠ 96 → gA σ2 k = gA σ k := by
      intro k h6 h8 h9 h10 h11 h12 h96
      rw [f1.2.2.2.1 k h8 h9 h10 h11 h12 h96, hσ1]
      show gA (sA (sI σ 0 (nI (thr false false))) 6 _) k = _
      rw [gA_sA, if_neg h6]
      rfl
    have frI : ∀ k, k ≠ 0 → k ≠ 2 → gI σ2 k = gI σ k := by
      intro k h0 h2
      rw [f1.1 k, hσ1, gI_sI, if_neg h2]
      show gI (sI σ 0 (nI (thr false false))) k = _
      rw [gI_sI, if_neg h0]
    have t2' : RT σ2 0 (fun _ => 0) := by
      refine ⟨?_, Nat.zero_le _, ?_, ?_⟩
      · rw [f1.1 2, hσ1]; rfl
      · rw [fr2 1 (by decide) (by decide) (by decide) (by decide) (by decide) (by decide) (by decide)]; exact t3
      · funext k
        exact if_neg (Nat.not_lt_zero k)
    by_cases c2 : eFil b n = 0
    · simp only [c1, c2, if_false, if_true]
      rw [if_pos (show nI 0 ≤ nI 0 by decide), Mr7 hm, bs, Mg5 hm, bs, e5, Ms7 hm hf, bs, Mr19 hm, bs, Mg5 hm, bs, show gI (sA σ2 7 (upd (gA σ2 7) fs.length (nI n))) 5 = nI fs.length from e5, z_0, Ms19 hm hf, bs, Mg5 hm, bs]
      rw [show gI (sA (sA σ2 7 (upd (gA σ2 7) fs.length (nI n))) 19 (upd (gA (sA σ2 7 (upd (gA σ2 7) fs.length (nI n))) 19) fs.length (bI false))) 5 = nI fs.length from e5, nI_add, Mp5 hm, bs]
      have e19 : gA σ2 19 = gA σ 19 := fr2 19 (by decide) (by decide) (by decide) (by decide) (by decide) (by decide) (by decide)
      refine ⟨_, rfl, ⟨?_, ?_, ?_, ?_⟩, ?_, ?_, ?_, ?_, ?_⟩
      · intro k h0 h2 h5
        rw [gI_sI, if_neg h5]
        exact frI k h0 h2
      · intro k
        rw [gJ_sI, gJ_sA, gJ_sA, f1.2.1 k, hσ1]; rfl
      · intro k
        rw [gB_sI, gB_sA, gB_sA, f1.2.2.1 k, hσ1]; rfl
      · intro k h6 h7 h8 h9 h10 h11 h12 h19 h96
        rw [gA_sI, gA_sA, if_neg h19, gA_sA, if_neg h7]
        exact fr2 k h6 h8 h9 h10 h11 h12 h96
      · rw [gI_sI, if_neg (by decide), gI_sA, gI_sA, f1.1 0, hσ1]; rfl
      · exact t2'
      · refine ⟨?_, by rw [List.length_append]; exact hf, ?_, ?_⟩
        · rw [List.length_append]
          rfl
        · show ∀ k, isB (gA σ2 6 k)
          rw [e6]
          exact put_B r3 t3
        · intro f x hx
          by_cases cf : f < fs.length
          · rw [List.getElem?_append_left cf] at hx
            exact RF1_eq (old f x hx) rfl rfl rfl (fun i _ _ => ⟨rfl, rfl, rfl⟩)
          · have hfe : f = fs.length := by
              have := (List.getElem?_eq_some_iff.mp hx).1
              rw [List.length_append] at this
              have : f < fs.length + 1 := this
              omega
            subst hfe
            rw [List.getElem?_append_right (Nat.le_refl _), Nat.sub_self] at hx
            have hx' : (n, b) = x := Option.some.inj hx
            rw [← hx']
            have hMs : ∃ l, fMem b n = some l := by
              unfold eFil at c2
              cases hq : fMem b n with
              | none => rw [hq] at c2; exact absurd c2 (show ¬ (8 : Nat) = 0 by decide)
              | some l => exact ⟨l, rfl⟩
            obtain ⟨l, hl⟩ := hMs
            have f5 := f4 l hl
            have hR : RF1 σ2 fs.length n b := by
              refine ⟨t2, ?_, c2, f3, l, hl, f5.1, f5.2⟩
              show cb (gA σ2 6) (8192 * fs.length) n = b
              rw [e6, put_same]
              exact t4
            exact RF1_eq hR rfl rfl rfl (fun i _ _ => ⟨rfl, rfl, rfl⟩)
      · exact upd_eq
      · intro i hi
        show upd (gA σ2 19) fs.length (bI false) i = _
        rw [upd_ne hi, e19]
    · simp only [c1, c2, if_false]
      rw [if_neg (nI_ge (by omega) (by omega))]
      refine ⟨σ2, rfl, ⟨fun k h0 h2 _ => frI k h0 h2, fun k => by rw [f1.2.1 k, hσ1]; rfl, fun k => by rw [f1.2.2.1 k, hσ1]; rfl, fun k h6 _ h8 h9 h10 h11 h12 _ h96 => fr2 k h6 h8 h9 h10 h11 h12 h96⟩, ?_, t2', ?_, ?_⟩
      · rw [f1.1 0, hσ1]; rfl
      · exact ⟨e5, r2, by rw [e6]; exact put_B r3 t3, old⟩
      · intro i
        rw [fr2 19 (by decide) (by decide) (by decide) (by decide) (by decide) (by decide) (by decide)]
end ADD2
end
section
/-! the class's fields: generated (gencl.py) -/
def cK : List (List Nat) := [[2, 2, 2, 2, 2, 2, 0, 2, 2, 2, 2, 2, 2, 2, 2, 2, 2, 0], [2, 2, 2, 2, 2], [2, 2, 2, 2, 2, 2, 2, 2, 2, 2, 2, 0, 0, 1, 1, 1, 1, 1, 1], [2, 2, 2, 2, 2, 2, 2, 2, 2, 2, 2, 2, 2, 2, 0, 0, 0, 0, 0, 1], [2, 2, 2, 2, 2, 2, 0, 1, 0, 0, 0, 0, 0], [1, 1, 1, 0, 0, 0, 2, 1, 1, 0, 0, 0, 0, 0, 1, 0, 0, 0], [2, 2, 0], [2, 0, 0, 2, 0, 0, 0, 0, 0, 0, 0, 0, 0, 0, 0, 0, 0], [0, 0, 0, 0, 0, 0, 0, 0, 0, 0, 0, 1, 0], [2, 2, 2, 0, 0, 1], [2, 0, 0], [2, 2, 2, 2, 2, 2, 0, 0, 0], [0, 2, 0, 2, 0, 0, 2, 2, 2, 2, 2, 2, 2, 0, 0, 0, 1, 2, 2, 2, 0, 2, 2, 2, 2, 2, 2, 2, 2, 2, 2, 0, 0, 2, 2, 2, 2, 2, 2, 2, 2, 2, 2, 0, 0, 2, 2, 2, 0, 2, 0, 2, 2, 2, 2, 2, 2, 2, 2, 2, 2, 2, 2, 2, 1, 2, 2, 2, 0, 0, 0, 2, 2, 2, 0, 2, 2, 2, 2, 1, 1, 1, 0, 1, 1, 1, 1, 1, 0, 0, 1, 2, 2, 2, 2, 2, 2, 2, 0, 2, 2, 0, 0, 0, 1, 2, 2, 2, 2, 2, 2, 2, 2, 2, 2, 0, 2, 2, 2, 2, 2, 2, 2, 0, 0, 0, 0, 0, 2, 2], [], [], []]
end
section
/-! a heap of cells as functions: what each place is (sk: (0, class, 0) or (1, type, length)), what its fields and elements are (τ) -/
abbrev px_TT : Type := (Nat → Nat → Int32) × (Nat → Nat → Int64) × (Nat → Nat → Option Nat) × (Nat → Nat → Int32) × (Nat → Nat → Int64) × (Nat → Nat → Option Nat)
def fI (τ : px_TT) (a k : Nat) : Int32 := τ.1 a k
def fJ (τ : px_TT) (a k : Nat) : Int64 := τ.2.1 a k
def fN (τ : px_TT) (a k : Nat) : Option Nat := τ.2.2.1 a k
def eI (τ : px_TT) (a : Nat) : Nat → Int32 := τ.2.2.2.1 a
def eJ (τ : px_TT) (a : Nat) : Nat → Int64 := τ.2.2.2.2.1 a
def eN (τ : px_TT) (a : Nat) : Nat → Option Nat := τ.2.2.2.2.2 a
def u2 {α : Type} (f : Nat → Nat → α) (a k : Nat) (v : α) : Nat → Nat → α := fun x y => if x = a ∧ y = k then v else f x y
def u1 {α : Type} (f : Nat → α) (a : Nat) (v : α) : Nat → α := fun x => if x = a then v else f x
def tI (τ : px_TT) (a k : Nat) (v : Int32) : px_TT := (u2 τ.1 a k v, τ.2)
def tJ (τ : px_TT) (a k : Nat) (v : Int64) : px_TT := (τ.1, u2 τ.2.1 a k v, τ.2.2)
def tN (τ : px_TT) (a k : Nat) (v : Option Nat) : px_TT := (τ.1, τ.2.1, u2 τ.2.2.1 a k v, τ.2.2.2)
def vI (τ : px_TT) (a : Nat) (f : Nat → Int32) : px_TT := (τ.1, τ.2.1, τ.2.2.1, u1 τ.2.2.2.1 a f, τ.2.2.2.2)
def vJ (τ : px_TT) (a : Nat) (f : Nat → Int64) : px_TT := (τ.1, τ.2.1, τ.2.2.1, τ.2.2.2.1, u1 τ.2.2.2.2.1 a f, τ.2.2.2.2.2)
def vN (τ : px_TT) (a : Nat) (f : Nat → Option Nat) : px_TT := (τ.1, τ.2.1, τ.2.2.1, τ.2.2.2.1, τ.2.2.2.2.1, u1 τ.2.2.2.2.2 a f)
theorem u1_self {α : Type} (f : Nat → α) (a : Nat) : u1 f a (f a) = f := by
  funext x
  unfold u1
  by_cases c : x = a
  · rw [if_pos c, c]
  · rw [if_neg c]
theorem u1_u1 {α : Type} (f : Nat → α) (a : Nat) (v w : α) : u1 (u1 f a v) a w = u1 f a w := by
  funext x
  unfold u1
  by_cases c : x = a
  · rw [if_pos c, if_pos c]
  · rw [if_neg c, if_neg c, if_neg c]
theorem vI_self (τ : px_TT) (a : Nat) : vI τ a (eI τ a) = τ := by
  unfold vI eI
  rw [u1_self]
theorem vI_vI (τ : px_TT) (a : Nat) (f g : Nat → Int32) : vI (vI τ a f) a g = vI τ a g := by
  unfold vI
  show (τ.1, τ.2.1, τ.2.2.1, u1 (u1 τ.2.2.2.1 a f) a g, τ.2.2.2.2) = _
  rw [u1_u1]
def cF (ci k : Nat) : Nat := (cK.getD ci []).getD k 9
def cN (ci : Nat) : Nat := (cK.getD ci []).length
def cv (τ : px_TT) (ci a k : Nat) : Value := if cF ci k = 0 then .int (fI τ a k) else if cF ci k = 1 then .long (fJ τ a k) else va_rf (fN τ a k)
def cell (sk : Nat → Nat × Nat × Nat) (τ : px_TT) (a : Nat) : px_PE := if (sk a).1 = 0 then .inr ((sk a).2.1, (List.range (cN (sk a).2.1)).map (cv τ (sk a).2.1 a)) else if (sk a).2.1 = 2 then .inl (2, (sk a).2.2, .inr (.inl (eJ τ a))) else if (sk a).2.1 ≤ 3 then .inl ((sk a).2.1, (sk a).2.2, .inl (eI τ a)) else .inl ((sk a).2.1, (sk a).2.2, .inr (.inr (.inr (.inr (eN τ a)))))
def cH (sk : Nat → Nat × Nat × Nat) (L : Nat) (τ : px_TT) : px_H := (List.range L).map (cell sk τ)
/-- an object of class ci at a; an array of type t and length n -/
def ob (sk : Nat → Nat × Nat × Nat) (L ci a : Nat) : Prop := sk a = (0, ci, 0) ∧ a < L
def ar (sk : Nat → Nat × Nat × Nat) (L t n a : Nat) : Prop := sk a = (1, t, n) ∧ a < L
section CST
variable {sk : Nat → Nat × Nat × Nat} {L a : Nat} {τ : px_TT}
theorem cH_at (h : a < L) : (cH sk L τ)[a]? = some (cell sk τ a) := by
  unfold cH
  rw [List.getElem?_map, List.getElem?_range h]
  rfl
theorem cH_set {τ' : px_TT} (v : px_PE) (hv : cell sk τ' a = v) (ho : ∀ b, b ≠ a → cell sk τ' b = cell sk τ b) : (cH sk L τ).set a v = cH sk L τ' := by
  apply List.ext_getElem?
  intro i
  by_cases hi : i < L
  · rw [cH_at hi]
    by_cases c : a = i
    · subst c
      rw [List.getElem?_set_self (by simp [cH]; omega), hv]
    · rw [List.getElem?_set_ne c, cH_at hi, ho i (fun q => c q.symm)]
  · rw [List.getElem?_eq_none (by simp [cH]; omega), List.getElem?_eq_none (by simp [cH]; omega)]
theorem c_o {ci : Nat} (h : ob sk L ci a) : xo (cH sk L τ) ci a = some ((List.range (cN ci)).map (cv τ ci a)) := by
  unfold xo
  rw [cH_at h.2]
  unfold cell
  rw [h.1]
  exact if_pos rfl
theorem cv_at {ci k : Nat} (hk : k < cN ci) : ((List.range (cN ci)).map (cv τ ci a))[k]? = some (cv τ ci a k) := by
  rw [List.getElem?_map, List.getElem?_range hk]
  rfl
theorem c_gI {ci k : Nat} (h : ob sk L ci a) (hk : cF ci k = 0) (hn : k < cN ci) : xgI (cH sk L τ) ci k a = some (fI τ a k) := by
  unfold xgI
  rw [c_o h, bs, cv_at hn]
  unfold cv
  rw [if_pos hk]
  rfl
theorem c_gJ {ci k : Nat} (h : ob sk L ci a) (hk : cF ci k = 1) (hn : k < cN ci) : xgJ (cH sk L τ) ci k a = some (fJ τ a k) := by
  unfold xgJ
  rw [c_o h, bs, cv_at hn]
  unfold cv
  rw [if_neg (by rw [hk]; decide), if_pos hk]
  rfl
theorem c_gN {ci k : Nat} (h : ob sk L ci a) (hk : cF ci k = 2) (hn : k < cN ci) : xgN (cH sk L τ) ci k a = some (fN τ a k) := by
  unfold xgN
  rw [c_o h, bs, cv_at hn]
  unfold cv
  rw [if_neg (by rw [hk]; decide), if_neg (by rw [hk]; decide)]
  cases fN τ a k <;> rfl
theorem c_gR {ci k : Nat} (h : ob sk L ci a) (hk : cF ci k = 2) (hn : k < cN ci) {q : Nat} (hq : fN τ a k = some q) : xgR (cH sk L τ) ci k a = some q := by
  unfold xgR
  rw [c_o h, bs, cv_at hn]
  unfold cv
  rw [if_neg (by rw [hk]; decide), if_neg (by rw [hk]; decide), hq]
  rfl
theorem cv_set {ci k : Nat} {v : Value} {τ' : px_TT} (hv : cv τ' ci a k = v) (ho : ∀ j, j ≠ k → cv τ' ci a j = cv τ ci a j) : ((List.range (cN ci)).map (cv τ ci a)).set k v = (List.range (cN ci)).map (cv τ' ci a) := by
  apply List.ext_getElem?
  intro i
  by_cases hi : i < cN ci
  · rw [cv_at hi]
    by_cases c : k = i
    · subst c
      rw [List.getElem?_set_self (by simp; omega), hv]
    · rw [List.getElem?_set_ne c, cv_at hi, ho i (fun q => c q.symm)]
  · rw [List.getElem?_eq_none (by simp; omega), List.getElem?_eq_none (by simp; omega)]
theorem c_p {ci k : Nat} (h : ob sk L ci a) (hn : k < cN ci) {v : Value} {τ' : px_TT} (hv : cv τ' ci a k = v) (ho : ∀ j, j ≠ k → cv τ' ci a j = cv τ ci a j) (hb : ∀ b, b ≠ a → cell sk τ' b = cell sk τ b) : xp (cH sk L τ) ci k a v = some (cH sk L τ') := by
  unfold xp
  rw [c_o h, bs, if_pos (by simp [Nat.blt_eq]; exact hn), cv_set hv ho]
  congr 1
  refine cH_set _ ?_ hb
  unfold cell
  rw [h.1]
  exact if_pos rfl
theorem cell_eq {τ' : px_TT} {b : Nat} (h1 : ∀ k, fI τ' b k = fI τ b k) (h2 : ∀ k, fJ τ' b k = fJ τ b k) (h3 : ∀ k, fN τ' b k = fN τ b k) (h4 : eI τ' b = eI τ b) (h5 : eJ τ' b = eJ τ b) (h6 : eN τ' b = eN τ b) : cell sk τ' b = cell sk τ b := by
  unfold cell
  rw [h4, h5, h6]
  have : cv τ' (sk b).2.1 b = cv τ (sk b).2.1 b := by
    funext k
    unfold cv
    rw [h1, h2, h3]
  rw [this]
theorem u2_ne {α : Type} {f : Nat → Nat → α} {a k b j : Nat} {v : α} (h : b ≠ a ∨ j ≠ k) : u2 f a k v b j = f b j := if_neg (fun q => h.elim (fun e => e q.1) (fun e => e q.2))
theorem u2_eq {α : Type} {f : Nat → Nat → α} {a k : Nat} {v : α} : u2 f a k v a k = v := if_pos ⟨rfl, rfl⟩
theorem u1_ne {α : Type} {f : Nat → α} {a b : Nat} {v : α} (h : b ≠ a) : u1 f a v b = f b := if_neg h
theorem u1_eq {α : Type} {f : Nat → α} {a : Nat} {v : α} : u1 f a v a = v := if_pos rfl
theorem c_pI {ci k : Nat} (h : ob sk L ci a) (hk : cF ci k = 0) (hn : k < cN ci) (v : Int32) : xpI (cH sk L τ) ci k a v = some (cH sk L (tI τ a k v)) := by
  refine c_p h hn ?_ ?_ ?_
  · unfold cv
    rw [if_pos hk]
    exact congrArg _ u2_eq
  · intro j hj
    unfold cv
    rw [show fI (tI τ a k v) a j = fI τ a j from u2_ne (Or.inr hj)]
    rfl
  · intro b hb
    exact cell_eq (fun j => u2_ne (Or.inl hb)) (fun _ => rfl) (fun _ => rfl) rfl rfl rfl
theorem c_pZ {ci k : Nat} (h : ob sk L ci a) (hk : cF ci k = 0) (hn : k < cN ci) (v : Bool) : xpZ (cH sk L τ) ci k a (bI v) = some (cH sk L (tI τ a k (bI v))) := by
  unfold xpZ
  rw [if_pos (by cases v <;> decide)]
  exact c_pI h hk hn _
theorem c_pJ {ci k : Nat} (h : ob sk L ci a) (hk : cF ci k = 1) (hn : k < cN ci) (v : Int64) : xpJ (cH sk L τ) ci k a v = some (cH sk L (tJ τ a k v)) := by
  refine c_p h hn ?_ ?_ ?_
  · unfold cv
    rw [if_neg (by rw [hk]; decide), if_pos hk]
    exact congrArg _ u2_eq
  · intro j hj
    unfold cv
    rw [show fJ (tJ τ a k v) a j = fJ τ a j from u2_ne (Or.inr hj)]
    rfl
  · intro b hb
    exact cell_eq (fun j => rfl) (fun _ => u2_ne (Or.inl hb)) (fun _ => rfl) rfl rfl rfl
theorem c_pN {ci k : Nat} (h : ob sk L ci a) (hk : cF ci k = 2) (hn : k < cN ci) (v : Option Nat) : xpN (cH sk L τ) ci k a v = some (cH sk L (tN τ a k v)) := by
  refine c_p h hn ?_ ?_ ?_
  · unfold cv
    rw [if_neg (by rw [hk]; decide), if_neg (by rw [hk]; decide)]
    exact congrArg _ u2_eq
  · intro j hj
    unfold cv
    rw [show fN (tN τ a k v) a j = fN τ a j from u2_ne (Or.inr hj)]
    rfl
  · intro b hb
    exact cell_eq (fun j => rfl) (fun _ => rfl) (fun _ => u2_ne (Or.inl hb)) rfl rfl rfl
theorem c_A {t n : Nat} (h : ar sk L t n a) (ht : t = 0 ∨ t = 1 ∨ t = 3) : xA (cH sk L τ) t a = some (n, eI τ a) := by
  unfold xA
  rw [cH_at h.2]
  unfold cell
  rw [h.1]
  rcases ht with rfl | rfl | rfl <;> rfl
theorem c_B {n : Nat} (h : ar sk L 2 n a) : xB (cH sk L τ) 2 a = some (n, eJ τ a) := by
  unfold xB
  rw [cH_at h.2]
  unfold cell
  rw [h.1]
  rfl
theorem c_N {t n : Nat} (h : ar sk L t n a) (ht : t = 4 ∨ t = 5 ∨ t = 6) : xN (cH sk L τ) t a = some (n, eN τ a) := by
  unfold xN
  rw [cH_at h.2]
  unfold cell
  rw [h.1]
  rcases ht with rfl | rfl | rfl <;> rfl
theorem c_l {t n : Nat} (h : ar sk L t n a) (ht : t ≤ 6) : xal (cH sk L τ) t a = some (nI n) := by
  unfold xal
  rw [cH_at h.2]
  unfold cell
  rw [h.1]
  rcases (by omega : t = 0 ∨ t = 1 ∨ t = 2 ∨ t = 3 ∨ t = 4 ∨ t = 5 ∨ t = 6) with rfl | rfl | rfl | rfl | rfl | rfl | rfl <;> rfl
theorem c_aI {t n i : Nat} (h : ar sk L t n a) (ht : t = 0 ∨ t = 1 ∨ t = 3) (hn : n < 2 ^ 31) (hi : i < n) : xaI (cH sk L τ) t a (nI i) = some (eI τ a i) := xaI_at (c_A h ht) hn hi
theorem c_aJ {n i : Nat} (h : ar sk L 2 n a) (hn : n < 2 ^ 31) (hi : i < n) : xaJ (cH sk L τ) 2 a (nI i) = some (eJ τ a i) := by
  unfold xaJ
  rw [c_B h, bs, if_neg (nI_in hi hn), nI_clamp (by omega)]
theorem c_aN {t n i : Nat} (h : ar sk L t n a) (ht : t = 4 ∨ t = 5 ∨ t = 6) (hn : n < 2 ^ 31) (hi : i < n) : xaN (cH sk L τ) t a (nI i) = some (eN τ a i) := by
  unfold xaN
  rw [c_N h ht, bs, if_neg (nI_in hi hn), nI_clamp (by omega)]
theorem c_sI {t n i : Nat} (h : ar sk L t n a) (ht : t = 0 ∨ t = 1 ∨ t = 3) (hn : n < 2 ^ 31) (hi : i < n) (v : Int32) : xsI (cH sk L τ) t a (nI i) v = some (cH sk L (vI τ a (upd (eI τ a) i v))) := by
  unfold xsI
  rw [c_A h ht, bs, if_neg (nI_in hi hn), nI_clamp (by omega)]
  congr 1
  refine cH_set _ ?_ ?_
  · unfold cell
    rw [h.1, show eI (vI τ a (upd (eI τ a) i v)) a = upd (eI τ a) i v from u1_eq]
    rcases ht with rfl | rfl | rfl <;> rfl
  · intro b hb
    exact cell_eq (fun j => rfl) (fun _ => rfl) (fun _ => rfl) (u1_ne hb) rfl rfl
theorem c_sJ {n i : Nat} (h : ar sk L 2 n a) (hn : n < 2 ^ 31) (hi : i < n) (v : Int64) : xsJ (cH sk L τ) 2 a (nI i) v = some (cH sk L (vJ τ a (vp_updL (eJ τ a) i v))) := by
  unfold xsJ
  rw [c_B h, bs, if_neg (nI_in hi hn), nI_clamp (by omega)]
  congr 1
  refine cH_set _ ?_ ?_
  · unfold cell
    rw [h.1, show eJ (vJ τ a (vp_updL (eJ τ a) i v)) a = vp_updL (eJ τ a) i v from u1_eq]
    rfl
  · intro b hb
    exact cell_eq (fun j => rfl) (fun _ => rfl) (fun _ => rfl) rfl (u1_ne hb) rfl
end CST
end
section
/-! the class's fields one by one: generated (gencl.py) -/
section CF
variable {sk : Nat → Nat × Nat × Nat} {L a : Nat} {τ : px_TT}
theorem C0r0 (h : ob sk L 0 a) {q : Nat} (hq : fN τ a 0 = some q) : xgR (cH sk L τ) 0 0 a = some q := c_gR h rfl (by decide) hq
theorem C0n0 (h : ob sk L 0 a) : xgN (cH sk L τ) 0 0 a = some (fN τ a 0) := c_gN h rfl (by decide)
theorem C0w0 (h : ob sk L 0 a) (v : Option Nat) : xpN (cH sk L τ) 0 0 a v = some (cH sk L (tN τ a 0 v)) := c_pN h rfl (by decide) v
theorem C0v0 (h : ob sk L 0 a) (v : Nat) : xpR (cH sk L τ) 0 0 a v = some (cH sk L (tN τ a 0 (some v))) := c_pN h rfl (by decide) (some v)
theorem C0r1 (h : ob sk L 0 a) {q : Nat} (hq : fN τ a 1 = some q) : xgR (cH sk L τ) 0 1 a = some q := c_gR h rfl (by decide) hq
theorem C0n1 (h : ob sk L 0 a) : xgN (cH sk L τ) 0 1 a = some (fN τ a 1) := c_gN h rfl (by decide)
theorem C0w1 (h : ob sk L 0 a) (v : Option Nat) : xpN (cH sk L τ) 0 1 a v = some (cH sk L (tN τ a 1 v)) := c_pN h rfl (by decide) v
theorem C0v1 (h : ob sk L 0 a) (v : Nat) : xpR (cH sk L τ) 0 1 a v = some (cH sk L (tN τ a 1 (some v))) := c_pN h rfl (by decide) (some v)
theorem C0r2 (h : ob sk L 0 a) {q : Nat} (hq : fN τ a 2 = some q) : xgR (cH sk L τ) 0 2 a = some q := c_gR h rfl (by decide) hq
theorem C0n2 (h : ob sk L 0 a) : xgN (cH sk L τ) 0 2 a = some (fN τ a 2) := c_gN h rfl (by decide)
theorem C0w2 (h : ob sk L 0 a) (v : Option Nat) : xpN (cH sk L τ) 0 2 a v = some (cH sk L (tN τ a 2 v)) := c_pN h rfl (by decide) v
theorem C0v2 (h : ob sk L 0 a) (v : Nat) : xpR (cH sk L τ) 0 2 a v = some (cH sk L (tN τ a 2 (some v))) := c_pN h rfl (by decide) (some v)
theorem C0r3 (h : ob sk L 0 a) {q : Nat} (hq : fN τ a 3 = some q) : xgR (cH sk L τ) 0 3 a = some q := c_gR h rfl (by decide) hq
theorem C0n3 (h : ob sk L 0 a) : xgN (cH sk L τ) 0 3 a = some (fN τ a 3) := c_gN h rfl (by decide)
theorem C0w3 (h : ob sk L 0 a) (v : Option Nat) : xpN (cH sk L τ) 0 3 a v = some (cH sk L (tN τ a 3 v)) := c_pN h rfl (by decide) v
theorem C0v3 (h : ob sk L 0 a) (v : Nat) : xpR (cH sk L τ) 0 3 a v = some (cH sk L (tN τ a 3 (some v))) := c_pN h rfl (by decide) (some v)
theorem C0r4 (h : ob sk L 0 a) {q : Nat} (hq : fN τ a 4 = some q) : xgR (cH sk L τ) 0 4 a = some q := c_gR h rfl (by decide) hq
theorem C0n4 (h : ob sk L 0 a) : xgN (cH sk L τ) 0 4 a = some (fN τ a 4) := c_gN h rfl (by decide)
theorem C0w4 (h : ob sk L 0 a) (v : Option Nat) : xpN (cH sk L τ) 0 4 a v = some (cH sk L (tN τ a 4 v)) := c_pN h rfl (by decide) v
theorem C0v4 (h : ob sk L 0 a) (v : Nat) : xpR (cH sk L τ) 0 4 a v = some (cH sk L (tN τ a 4 (some v))) := c_pN h rfl (by decide) (some v)
theorem C0r5 (h : ob sk L 0 a) {q : Nat} (hq : fN τ a 5 = some q) : xgR (cH sk L τ) 0 5 a = some q := c_gR h rfl (by decide) hq
theorem C0n5 (h : ob sk L 0 a) : xgN (cH sk L τ) 0 5 a = some (fN τ a 5) := c_gN h rfl (by decide)
theorem C0w5 (h : ob sk L 0 a) (v : Option Nat) : xpN (cH sk L τ) 0 5 a v = some (cH sk L (tN τ a 5 v)) := c_pN h rfl (by decide) v
theorem C0v5 (h : ob sk L 0 a) (v : Nat) : xpR (cH sk L τ) 0 5 a v = some (cH sk L (tN τ a 5 (some v))) := c_pN h rfl (by decide) (some v)
theorem C0g6 (h : ob sk L 0 a) : xgI (cH sk L τ) 0 6 a = some (fI τ a 6) := c_gI h rfl (by decide)
theorem C0p6 (h : ob sk L 0 a) (v : Int32) : xpI (cH sk L τ) 0 6 a v = some (cH sk L (tI τ a 6 v)) := c_pI h rfl (by decide) v
theorem C0r7 (h : ob sk L 0 a) {q : Nat} (hq : fN τ a 7 = some q) : xgR (cH sk L τ) 0 7 a = some q := c_gR h rfl (by decide) hq
theorem C0n7 (h : ob sk L 0 a) : xgN (cH sk L τ) 0 7 a = some (fN τ a 7) := c_gN h rfl (by decide)
theorem C0w7 (h : ob sk L 0 a) (v : Option Nat) : xpN (cH sk L τ) 0 7 a v = some (cH sk L (tN τ a 7 v)) := c_pN h rfl (by decide) v
theorem C0v7 (h : ob sk L 0 a) (v : Nat) : xpR (cH sk L τ) 0 7 a v = some (cH sk L (tN τ a 7 (some v))) := c_pN h rfl (by decide) (some v)
theorem C0r8 (h : ob sk L 0 a) {q : Nat} (hq : fN τ a 8 = some q) : xgR (cH sk L τ) 0 8 a = some q := c_gR h rfl (by decide) hq
theorem C0n8 (h : ob sk L 0 a) : xgN (cH sk L τ) 0 8 a = some (fN τ a 8) := c_gN h rfl (by decide)
theorem C0w8 (h : ob sk L 0 a) (v : Option Nat) : xpN (cH sk L τ) 0 8 a v = some (cH sk L (tN τ a 8 v)) := c_pN h rfl (by decide) v
theorem C0v8 (h : ob sk L 0 a) (v : Nat) : xpR (cH sk L τ) 0 8 a v = some (cH sk L (tN τ a 8 (some v))) := c_pN h rfl (by decide) (some v)
theorem C0r9 (h : ob sk L 0 a) {q : Nat} (hq : fN τ a 9 = some q) : xgR (cH sk L τ) 0 9 a = some q := c_gR h rfl (by decide) hq
theorem C0n9 (h : ob sk L 0 a) : xgN (cH sk L τ) 0 9 a = some (fN τ a 9) := c_gN h rfl (by decide)
theorem C0w9 (h : ob sk L 0 a) (v : Option Nat) : xpN (cH sk L τ) 0 9 a v = some (cH sk L (tN τ a 9 v)) := c_pN h rfl (by decide) v
theorem C0v9 (h : ob sk L 0 a) (v : Nat) : xpR (cH sk L τ) 0 9 a v = some (cH sk L (tN τ a 9 (some v))) := c_pN h rfl (by decide) (some v)
theorem C0r10 (h : ob sk L 0 a) {q : Nat} (hq : fN τ a 10 = some q) : xgR (cH sk L τ) 0 10 a = some q := c_gR h rfl (by decide) hq
theorem C0n10 (h : ob sk L 0 a) : xgN (cH sk L τ) 0 10 a = some (fN τ a 10) := c_gN h rfl (by decide)
theorem C0w10 (h : ob sk L 0 a) (v : Option Nat) : xpN (cH sk L τ) 0 10 a v = some (cH sk L (tN τ a 10 v)) := c_pN h rfl (by decide) v
theorem C0v10 (h : ob sk L 0 a) (v : Nat) : xpR (cH sk L τ) 0 10 a v = some (cH sk L (tN τ a 10 (some v))) := c_pN h rfl (by decide) (some v)
theorem C0r11 (h : ob sk L 0 a) {q : Nat} (hq : fN τ a 11 = some q) : xgR (cH sk L τ) 0 11 a = some q := c_gR h rfl (by decide) hq
theorem C0n11 (h : ob sk L 0 a) : xgN (cH sk L τ) 0 11 a = some (fN τ a 11) := c_gN h rfl (by decide)
theorem C0w11 (h : ob sk L 0 a) (v : Option Nat) : xpN (cH sk L τ) 0 11 a v = some (cH sk L (tN τ a 11 v)) := c_pN h rfl (by decide) v
theorem C0v11 (h : ob sk L 0 a) (v : Nat) : xpR (cH sk L τ) 0 11 a v = some (cH sk L (tN τ a 11 (some v))) := c_pN h rfl (by decide) (some v)
theorem C0r12 (h : ob sk L 0 a) {q : Nat} (hq : fN τ a 12 = some q) : xgR (cH sk L τ) 0 12 a = some q := c_gR h rfl (by decide) hq
theorem C0n12 (h : ob sk L 0 a) : xgN (cH sk L τ) 0 12 a = some (fN τ a 12) := c_gN h rfl (by decide)
theorem C0w12 (h : ob sk L 0 a) (v : Option Nat) : xpN (cH sk L τ) 0 12 a v = some (cH sk L (tN τ a 12 v)) := c_pN h rfl (by decide) v
theorem C0v12 (h : ob sk L 0 a) (v : Nat) : xpR (cH sk L τ) 0 12 a v = some (cH sk L (tN τ a 12 (some v))) := c_pN h rfl (by decide) (some v)
theorem C0r13 (h : ob sk L 0 a) {q : Nat} (hq : fN τ a 13 = some q) : xgR (cH sk L τ) 0 13 a = some q := c_gR h rfl (by decide) hq
theorem C0n13 (h : ob sk L 0 a) : xgN (cH sk L τ) 0 13 a = some (fN τ a 13) := c_gN h rfl (by decide)
theorem C0w13 (h : ob sk L 0 a) (v : Option Nat) : xpN (cH sk L τ) 0 13 a v = some (cH sk L (tN τ a 13 v)) := c_pN h rfl (by decide) v
theorem C0v13 (h : ob sk L 0 a) (v : Nat) : xpR (cH sk L τ) 0 13 a v = some (cH sk L (tN τ a 13 (some v))) := c_pN h rfl (by decide) (some v)
theorem C0r14 (h : ob sk L 0 a) {q : Nat} (hq : fN τ a 14 = some q) : xgR (cH sk L τ) 0 14 a = some q := c_gR h rfl (by decide) hq
theorem C0n14 (h : ob sk L 0 a) : xgN (cH sk L τ) 0 14 a = some (fN τ a 14) := c_gN h rfl (by decide)
theorem C0w14 (h : ob sk L 0 a) (v : Option Nat) : xpN (cH sk L τ) 0 14 a v = some (cH sk L (tN τ a 14 v)) := c_pN h rfl (by decide) v
theorem C0v14 (h : ob sk L 0 a) (v : Nat) : xpR (cH sk L τ) 0 14 a v = some (cH sk L (tN τ a 14 (some v))) := c_pN h rfl (by decide) (some v)
theorem C0r15 (h : ob sk L 0 a) {q : Nat} (hq : fN τ a 15 = some q) : xgR (cH sk L τ) 0 15 a = some q := c_gR h rfl (by decide) hq
theorem C0n15 (h : ob sk L 0 a) : xgN (cH sk L τ) 0 15 a = some (fN τ a 15) := c_gN h rfl (by decide)
theorem C0w15 (h : ob sk L 0 a) (v : Option Nat) : xpN (cH sk L τ) 0 15 a v = some (cH sk L (tN τ a 15 v)) := c_pN h rfl (by decide) v
theorem C0v15 (h : ob sk L 0 a) (v : Nat) : xpR (cH sk L τ) 0 15 a v = some (cH sk L (tN τ a 15 (some v))) := c_pN h rfl (by decide) (some v)
theorem C0r16 (h : ob sk L 0 a) {q : Nat} (hq : fN τ a 16 = some q) : xgR (cH sk L τ) 0 16 a = some q := c_gR h rfl (by decide) hq
theorem C0n16 (h : ob sk L 0 a) : xgN (cH sk L τ) 0 16 a = some (fN τ a 16) := c_gN h rfl (by decide)
theorem C0w16 (h : ob sk L 0 a) (v : Option Nat) : xpN (cH sk L τ) 0 16 a v = some (cH sk L (tN τ a 16 v)) := c_pN h rfl (by decide) v
theorem C0v16 (h : ob sk L 0 a) (v : Nat) : xpR (cH sk L τ) 0 16 a v = some (cH sk L (tN τ a 16 (some v))) := c_pN h rfl (by decide) (some v)
theorem C0g17 (h : ob sk L 0 a) : xgI (cH sk L τ) 0 17 a = some (fI τ a 17) := c_gI h rfl (by decide)
theorem C0p17 (h : ob sk L 0 a) (v : Int32) : xpI (cH sk L τ) 0 17 a v = some (cH sk L (tI τ a 17 v)) := c_pI h rfl (by decide) v
theorem C1r0 (h : ob sk L 1 a) {q : Nat} (hq : fN τ a 0 = some q) : xgR (cH sk L τ) 1 0 a = some q := c_gR h rfl (by decide) hq
theorem C1n0 (h : ob sk L 1 a) : xgN (cH sk L τ) 1 0 a = some (fN τ a 0) := c_gN h rfl (by decide)
theorem C1w0 (h : ob sk L 1 a) (v : Option Nat) : xpN (cH sk L τ) 1 0 a v = some (cH sk L (tN τ a 0 v)) := c_pN h rfl (by decide) v
theorem C1v0 (h : ob sk L 1 a) (v : Nat) : xpR (cH sk L τ) 1 0 a v = some (cH sk L (tN τ a 0 (some v))) := c_pN h rfl (by decide) (some v)
theorem C1r1 (h : ob sk L 1 a) {q : Nat} (hq : fN τ a 1 = some q) : xgR (cH sk L τ) 1 1 a = some q := c_gR h rfl (by decide) hq
theorem C1n1 (h : ob sk L 1 a) : xgN (cH sk L τ) 1 1 a = some (fN τ a 1) := c_gN h rfl (by decide)
theorem C1w1 (h : ob sk L 1 a) (v : Option Nat) : xpN (cH sk L τ) 1 1 a v = some (cH sk L (tN τ a 1 v)) := c_pN h rfl (by decide) v
theorem C1v1 (h : ob sk L 1 a) (v : Nat) : xpR (cH sk L τ) 1 1 a v = some (cH sk L (tN τ a 1 (some v))) := c_pN h rfl (by decide) (some v)
theorem C1r2 (h : ob sk L 1 a) {q : Nat} (hq : fN τ a 2 = some q) : xgR (cH sk L τ) 1 2 a = some q := c_gR h rfl (by decide) hq
theorem C1n2 (h : ob sk L 1 a) : xgN (cH sk L τ) 1 2 a = some (fN τ a 2) := c_gN h rfl (by decide)
theorem C1w2 (h : ob sk L 1 a) (v : Option Nat) : xpN (cH sk L τ) 1 2 a v = some (cH sk L (tN τ a 2 v)) := c_pN h rfl (by decide) v
theorem C1v2 (h : ob sk L 1 a) (v : Nat) : xpR (cH sk L τ) 1 2 a v = some (cH sk L (tN τ a 2 (some v))) := c_pN h rfl (by decide) (some v)
theorem C1r3 (h : ob sk L 1 a) {q : Nat} (hq : fN τ a 3 = some q) : xgR (cH sk L τ) 1 3 a = some q := c_gR h rfl (by decide) hq
theorem C1n3 (h : ob sk L 1 a) : xgN (cH sk L τ) 1 3 a = some (fN τ a 3) := c_gN h rfl (by decide)
theorem C1w3 (h : ob sk L 1 a) (v : Option Nat) : xpN (cH sk L τ) 1 3 a v = some (cH sk L (tN τ a 3 v)) := c_pN h rfl (by decide) v
theorem C1v3 (h : ob sk L 1 a) (v : Nat) : xpR (cH sk L τ) 1 3 a v = some (cH sk L (tN τ a 3 (some v))) := c_pN h rfl (by decide) (some v)
theorem C1r4 (h : ob sk L 1 a) {q : Nat} (hq : fN τ a 4 = some q) : xgR (cH sk L τ) 1 4 a = some q := c_gR h rfl (by decide) hq
theorem C1n4 (h : ob sk L 1 a) : xgN (cH sk L τ) 1 4 a = some (fN τ a 4) := c_gN h rfl (by decide)
theorem C1w4 (h : ob sk L 1 a) (v : Option Nat) : xpN (cH sk L τ) 1 4 a v = some (cH sk L (tN τ a 4 v)) := c_pN h rfl (by decide) v
theorem C1v4 (h : ob sk L 1 a) (v : Nat) : xpR (cH sk L τ) 1 4 a v = some (cH sk L (tN τ a 4 (some v))) := c_pN h rfl (by decide) (some v)
theorem C2r0 (h : ob sk L 2 a) {q : Nat} (hq : fN τ a 0 = some q) : xgR (cH sk L τ) 2 0 a = some q := c_gR h rfl (by decide) hq
theorem C2n0 (h : ob sk L 2 a) : xgN (cH sk L τ) 2 0 a = some (fN τ a 0) := c_gN h rfl (by decide)
theorem C2w0 (h : ob sk L 2 a) (v : Option Nat) : xpN (cH sk L τ) 2 0 a v = some (cH sk L (tN τ a 0 v)) := c_pN h rfl (by decide) v
theorem C2v0 (h : ob sk L 2 a) (v : Nat) : xpR (cH sk L τ) 2 0 a v = some (cH sk L (tN τ a 0 (some v))) := c_pN h rfl (by decide) (some v)
theorem C2r1 (h : ob sk L 2 a) {q : Nat} (hq : fN τ a 1 = some q) : xgR (cH sk L τ) 2 1 a = some q := c_gR h rfl (by decide) hq
theorem C2n1 (h : ob sk L 2 a) : xgN (cH sk L τ) 2 1 a = some (fN τ a 1) := c_gN h rfl (by decide)
theorem C2w1 (h : ob sk L 2 a) (v : Option Nat) : xpN (cH sk L τ) 2 1 a v = some (cH sk L (tN τ a 1 v)) := c_pN h rfl (by decide) v
theorem C2v1 (h : ob sk L 2 a) (v : Nat) : xpR (cH sk L τ) 2 1 a v = some (cH sk L (tN τ a 1 (some v))) := c_pN h rfl (by decide) (some v)
theorem C2r2 (h : ob sk L 2 a) {q : Nat} (hq : fN τ a 2 = some q) : xgR (cH sk L τ) 2 2 a = some q := c_gR h rfl (by decide) hq
theorem C2n2 (h : ob sk L 2 a) : xgN (cH sk L τ) 2 2 a = some (fN τ a 2) := c_gN h rfl (by decide)
theorem C2w2 (h : ob sk L 2 a) (v : Option Nat) : xpN (cH sk L τ) 2 2 a v = some (cH sk L (tN τ a 2 v)) := c_pN h rfl (by decide) v
theorem C2v2 (h : ob sk L 2 a) (v : Nat) : xpR (cH sk L τ) 2 2 a v = some (cH sk L (tN τ a 2 (some v))) := c_pN h rfl (by decide) (some v)
theorem C2r3 (h : ob sk L 2 a) {q : Nat} (hq : fN τ a 3 = some q) : xgR (cH sk L τ) 2 3 a = some q := c_gR h rfl (by decide) hq
theorem C2n3 (h : ob sk L 2 a) : xgN (cH sk L τ) 2 3 a = some (fN τ a 3) := c_gN h rfl (by decide)
theorem C2w3 (h : ob sk L 2 a) (v : Option Nat) : xpN (cH sk L τ) 2 3 a v = some (cH sk L (tN τ a 3 v)) := c_pN h rfl (by decide) v
theorem C2v3 (h : ob sk L 2 a) (v : Nat) : xpR (cH sk L τ) 2 3 a v = some (cH sk L (tN τ a 3 (some v))) := c_pN h rfl (by decide) (some v)
theorem C2r4 (h : ob sk L 2 a) {q : Nat} (hq : fN τ a 4 = some q) : xgR (cH sk L τ) 2 4 a = some q := c_gR h rfl (by decide) hq
theorem C2n4 (h : ob sk L 2 a) : xgN (cH sk L τ) 2 4 a = some (fN τ a 4) := c_gN h rfl (by decide)
theorem C2w4 (h : ob sk L 2 a) (v : Option Nat) : xpN (cH sk L τ) 2 4 a v = some (cH sk L (tN τ a 4 v)) := c_pN h rfl (by decide) v
theorem C2v4 (h : ob sk L 2 a) (v : Nat) : xpR (cH sk L τ) 2 4 a v = some (cH sk L (tN τ a 4 (some v))) := c_pN h rfl (by decide) (some v)
theorem C2r5 (h : ob sk L 2 a) {q : Nat} (hq : fN τ a 5 = some q) : xgR (cH sk L τ) 2 5 a = some q := c_gR h rfl (by decide) hq
theorem C2n5 (h : ob sk L 2 a) : xgN (cH sk L τ) 2 5 a = some (fN τ a 5) := c_gN h rfl (by decide)
theorem C2w5 (h : ob sk L 2 a) (v : Option Nat) : xpN (cH sk L τ) 2 5 a v = some (cH sk L (tN τ a 5 v)) := c_pN h rfl (by decide) v
theorem C2v5 (h : ob sk L 2 a) (v : Nat) : xpR (cH sk L τ) 2 5 a v = some (cH sk L (tN τ a 5 (some v))) := c_pN h rfl (by decide) (some v)
theorem C2r6 (h : ob sk L 2 a) {q : Nat} (hq : fN τ a 6 = some q) : xgR (cH sk L τ) 2 6 a = some q := c_gR h rfl (by decide) hq
theorem C2n6 (h : ob sk L 2 a) : xgN (cH sk L τ) 2 6 a = some (fN τ a 6) := c_gN h rfl (by decide)
theorem C2w6 (h : ob sk L 2 a) (v : Option Nat) : xpN (cH sk L τ) 2 6 a v = some (cH sk L (tN τ a 6 v)) := c_pN h rfl (by decide) v
theorem C2v6 (h : ob sk L 2 a) (v : Nat) : xpR (cH sk L τ) 2 6 a v = some (cH sk L (tN τ a 6 (some v))) := c_pN h rfl (by decide) (some v)
theorem C2r7 (h : ob sk L 2 a) {q : Nat} (hq : fN τ a 7 = some q) : xgR (cH sk L τ) 2 7 a = some q := c_gR h rfl (by decide) hq
theorem C2n7 (h : ob sk L 2 a) : xgN (cH sk L τ) 2 7 a = some (fN τ a 7) := c_gN h rfl (by decide)
theorem C2w7 (h : ob sk L 2 a) (v : Option Nat) : xpN (cH sk L τ) 2 7 a v = some (cH sk L (tN τ a 7 v)) := c_pN h rfl (by decide) v
theorem C2v7 (h : ob sk L 2 a) (v : Nat) : xpR (cH sk L τ) 2 7 a v = some (cH sk L (tN τ a 7 (some v))) := c_pN h rfl (by decide) (some v)
theorem C2r8 (h : ob sk L 2 a) {q : Nat} (hq : fN τ a 8 = some q) : xgR (cH sk L τ) 2 8 a = some q := c_gR h rfl (by decide) hq
theorem C2n8 (h : ob sk L 2 a) : xgN (cH sk L τ) 2 8 a = some (fN τ a 8) := c_gN h rfl (by decide)
theorem C2w8 (h : ob sk L 2 a) (v : Option Nat) : xpN (cH sk L τ) 2 8 a v = some (cH sk L (tN τ a 8 v)) := c_pN h rfl (by decide) v
theorem C2v8 (h : ob sk L 2 a) (v : Nat) : xpR (cH sk L τ) 2 8 a v = some (cH sk L (tN τ a 8 (some v))) := c_pN h rfl (by decide) (some v)
theorem C2r9 (h : ob sk L 2 a) {q : Nat} (hq : fN τ a 9 = some q) : xgR (cH sk L τ) 2 9 a = some q := c_gR h rfl (by decide) hq
theorem C2n9 (h : ob sk L 2 a) : xgN (cH sk L τ) 2 9 a = some (fN τ a 9) := c_gN h rfl (by decide)
theorem C2w9 (h : ob sk L 2 a) (v : Option Nat) : xpN (cH sk L τ) 2 9 a v = some (cH sk L (tN τ a 9 v)) := c_pN h rfl (by decide) v
theorem C2v9 (h : ob sk L 2 a) (v : Nat) : xpR (cH sk L τ) 2 9 a v = some (cH sk L (tN τ a 9 (some v))) := c_pN h rfl (by decide) (some v)
theorem C2r10 (h : ob sk L 2 a) {q : Nat} (hq : fN τ a 10 = some q) : xgR (cH sk L τ) 2 10 a = some q := c_gR h rfl (by decide) hq
theorem C2n10 (h : ob sk L 2 a) : xgN (cH sk L τ) 2 10 a = some (fN τ a 10) := c_gN h rfl (by decide)
theorem C2w10 (h : ob sk L 2 a) (v : Option Nat) : xpN (cH sk L τ) 2 10 a v = some (cH sk L (tN τ a 10 v)) := c_pN h rfl (by decide) v
theorem C2v10 (h : ob sk L 2 a) (v : Nat) : xpR (cH sk L τ) 2 10 a v = some (cH sk L (tN τ a 10 (some v))) := c_pN h rfl (by decide) (some v)
theorem C2g11 (h : ob sk L 2 a) : xgI (cH sk L τ) 2 11 a = some (fI τ a 11) := c_gI h rfl (by decide)
theorem C2p11 (h : ob sk L 2 a) (v : Int32) : xpI (cH sk L τ) 2 11 a v = some (cH sk L (tI τ a 11 v)) := c_pI h rfl (by decide) v
theorem C2g12 (h : ob sk L 2 a) : xgI (cH sk L τ) 2 12 a = some (fI τ a 12) := c_gI h rfl (by decide)
theorem C2p12 (h : ob sk L 2 a) (v : Int32) : xpI (cH sk L τ) 2 12 a v = some (cH sk L (tI τ a 12 v)) := c_pI h rfl (by decide) v
theorem C2g13 (h : ob sk L 2 a) : xgJ (cH sk L τ) 2 13 a = some (fJ τ a 13) := c_gJ h rfl (by decide)
theorem C2p13 (h : ob sk L 2 a) (v : Int64) : xpJ (cH sk L τ) 2 13 a v = some (cH sk L (tJ τ a 13 v)) := c_pJ h rfl (by decide) v
theorem C2g14 (h : ob sk L 2 a) : xgJ (cH sk L τ) 2 14 a = some (fJ τ a 14) := c_gJ h rfl (by decide)
theorem C2p14 (h : ob sk L 2 a) (v : Int64) : xpJ (cH sk L τ) 2 14 a v = some (cH sk L (tJ τ a 14 v)) := c_pJ h rfl (by decide) v
theorem C2g15 (h : ob sk L 2 a) : xgJ (cH sk L τ) 2 15 a = some (fJ τ a 15) := c_gJ h rfl (by decide)
theorem C2p15 (h : ob sk L 2 a) (v : Int64) : xpJ (cH sk L τ) 2 15 a v = some (cH sk L (tJ τ a 15 v)) := c_pJ h rfl (by decide) v
theorem C2g16 (h : ob sk L 2 a) : xgJ (cH sk L τ) 2 16 a = some (fJ τ a 16) := c_gJ h rfl (by decide)
theorem C2p16 (h : ob sk L 2 a) (v : Int64) : xpJ (cH sk L τ) 2 16 a v = some (cH sk L (tJ τ a 16 v)) := c_pJ h rfl (by decide) v
theorem C2g17 (h : ob sk L 2 a) : xgJ (cH sk L τ) 2 17 a = some (fJ τ a 17) := c_gJ h rfl (by decide)
theorem C2p17 (h : ob sk L 2 a) (v : Int64) : xpJ (cH sk L τ) 2 17 a v = some (cH sk L (tJ τ a 17 v)) := c_pJ h rfl (by decide) v
theorem C2g18 (h : ob sk L 2 a) : xgJ (cH sk L τ) 2 18 a = some (fJ τ a 18) := c_gJ h rfl (by decide)
theorem C2p18 (h : ob sk L 2 a) (v : Int64) : xpJ (cH sk L τ) 2 18 a v = some (cH sk L (tJ τ a 18 v)) := c_pJ h rfl (by decide) v
theorem C3r0 (h : ob sk L 3 a) {q : Nat} (hq : fN τ a 0 = some q) : xgR (cH sk L τ) 3 0 a = some q := c_gR h rfl (by decide) hq
theorem C3n0 (h : ob sk L 3 a) : xgN (cH sk L τ) 3 0 a = some (fN τ a 0) := c_gN h rfl (by decide)
theorem C3w0 (h : ob sk L 3 a) (v : Option Nat) : xpN (cH sk L τ) 3 0 a v = some (cH sk L (tN τ a 0 v)) := c_pN h rfl (by decide) v
theorem C3v0 (h : ob sk L 3 a) (v : Nat) : xpR (cH sk L τ) 3 0 a v = some (cH sk L (tN τ a 0 (some v))) := c_pN h rfl (by decide) (some v)
theorem C3r1 (h : ob sk L 3 a) {q : Nat} (hq : fN τ a 1 = some q) : xgR (cH sk L τ) 3 1 a = some q := c_gR h rfl (by decide) hq
theorem C3n1 (h : ob sk L 3 a) : xgN (cH sk L τ) 3 1 a = some (fN τ a 1) := c_gN h rfl (by decide)
theorem C3w1 (h : ob sk L 3 a) (v : Option Nat) : xpN (cH sk L τ) 3 1 a v = some (cH sk L (tN τ a 1 v)) := c_pN h rfl (by decide) v
theorem C3v1 (h : ob sk L 3 a) (v : Nat) : xpR (cH sk L τ) 3 1 a v = some (cH sk L (tN τ a 1 (some v))) := c_pN h rfl (by decide) (some v)
theorem C3r2 (h : ob sk L 3 a) {q : Nat} (hq : fN τ a 2 = some q) : xgR (cH sk L τ) 3 2 a = some q := c_gR h rfl (by decide) hq
theorem C3n2 (h : ob sk L 3 a) : xgN (cH sk L τ) 3 2 a = some (fN τ a 2) := c_gN h rfl (by decide)
theorem C3w2 (h : ob sk L 3 a) (v : Option Nat) : xpN (cH sk L τ) 3 2 a v = some (cH sk L (tN τ a 2 v)) := c_pN h rfl (by decide) v
theorem C3v2 (h : ob sk L 3 a) (v : Nat) : xpR (cH sk L τ) 3 2 a v = some (cH sk L (tN τ a 2 (some v))) := c_pN h rfl (by decide) (some v)
theorem C3r3 (h : ob sk L 3 a) {q : Nat} (hq : fN τ a 3 = some q) : xgR (cH sk L τ) 3 3 a = some q := c_gR h rfl (by decide) hq
theorem C3n3 (h : ob sk L 3 a) : xgN (cH sk L τ) 3 3 a = some (fN τ a 3) := c_gN h rfl (by decide)
theorem C3w3 (h : ob sk L 3 a) (v : Option Nat) : xpN (cH sk L τ) 3 3 a v = some (cH sk L (tN τ a 3 v)) := c_pN h rfl (by decide) v
theorem C3v3 (h : ob sk L 3 a) (v : Nat) : xpR (cH sk L τ) 3 3 a v = some (cH sk L (tN τ a 3 (some v))) := c_pN h rfl (by decide) (some v)
theorem C3r4 (h : ob sk L 3 a) {q : Nat} (hq : fN τ a 4 = some q) : xgR (cH sk L τ) 3 4 a = some q := c_gR h rfl (by decide) hq
theorem C3n4 (h : ob sk L 3 a) : xgN (cH sk L τ) 3 4 a = some (fN τ a 4) := c_gN h rfl (by decide)
theorem C3w4 (h : ob sk L 3 a) (v : Option Nat) : xpN (cH sk L τ) 3 4 a v = some (cH sk L (tN τ a 4 v)) := c_pN h rfl (by decide) v
theorem C3v4 (h : ob sk L 3 a) (v : Nat) : xpR (cH sk L τ) 3 4 a v = some (cH sk L (tN τ a 4 (some v))) := c_pN h rfl (by decide) (some v)
theorem C3r5 (h : ob sk L 3 a) {q : Nat} (hq : fN τ a 5 = some q) : xgR (cH sk L τ) 3 5 a = some q := c_gR h rfl (by decide) hq
theorem C3n5 (h : ob sk L 3 a) : xgN (cH sk L τ) 3 5 a = some (fN τ a 5) := c_gN h rfl (by decide)
theorem C3w5 (h : ob sk L 3 a) (v : Option Nat) : xpN (cH sk L τ) 3 5 a v = some (cH sk L (tN τ a 5 v)) := c_pN h rfl (by decide) v
theorem C3v5 (h : ob sk L 3 a) (v : Nat) : xpR (cH sk L τ) 3 5 a v = some (cH sk L (tN τ a 5 (some v))) := c_pN h rfl (by decide) (some v)
theorem C3r6 (h : ob sk L 3 a) {q : Nat} (hq : fN τ a 6 = some q) : xgR (cH sk L τ) 3 6 a = some q := c_gR h rfl (by decide) hq
theorem C3n6 (h : ob sk L 3 a) : xgN (cH sk L τ) 3 6 a = some (fN τ a 6) := c_gN h rfl (by decide)
theorem C3w6 (h : ob sk L 3 a) (v : Option Nat) : xpN (cH sk L τ) 3 6 a v = some (cH sk L (tN τ a 6 v)) := c_pN h rfl (by decide) v
theorem C3v6 (h : ob sk L 3 a) (v : Nat) : xpR (cH sk L τ) 3 6 a v = some (cH sk L (tN τ a 6 (some v))) := c_pN h rfl (by decide) (some v)
theorem C3r7 (h : ob sk L 3 a) {q : Nat} (hq : fN τ a 7 = some q) : xgR (cH sk L τ) 3 7 a = some q := c_gR h rfl (by decide) hq
theorem C3n7 (h : ob sk L 3 a) : xgN (cH sk L τ) 3 7 a = some (fN τ a 7) := c_gN h rfl (by decide)
theorem C3w7 (h : ob sk L 3 a) (v : Option Nat) : xpN (cH sk L τ) 3 7 a v = some (cH sk L (tN τ a 7 v)) := c_pN h rfl (by decide) v
theorem C3v7 (h : ob sk L 3 a) (v : Nat) : xpR (cH sk L τ) 3 7 a v = some (cH sk L (tN τ a 7 (some v))) := c_pN h rfl (by decide) (some v)
theorem C3r8 (h : ob sk L 3 a) {q : Nat} (hq : fN τ a 8 = some q) : xgR (cH sk L τ) 3 8 a = some q := c_gR h rfl (by decide) hq
theorem C3n8 (h : ob sk L 3 a) : xgN (cH sk L τ) 3 8 a = some (fN τ a 8) := c_gN h rfl (by decide)
theorem C3w8 (h : ob sk L 3 a) (v : Option Nat) : xpN (cH sk L τ) 3 8 a v = some (cH sk L (tN τ a 8 v)) := c_pN h rfl (by decide) v
theorem C3v8 (h : ob sk L 3 a) (v : Nat) : xpR (cH sk L τ) 3 8 a v = some (cH sk L (tN τ a 8 (some v))) := c_pN h rfl (by decide) (some v)
theorem C3r9 (h : ob sk L 3 a) {q : Nat} (hq : fN τ a 9 = some q) : xgR (cH sk L τ) 3 9 a = some q := c_gR h rfl (by decide) hq
theorem C3n9 (h : ob sk L 3 a) : xgN (cH sk L τ) 3 9 a = some (fN τ a 9) := c_gN h rfl (by decide)
theorem C3w9 (h : ob sk L 3 a) (v : Option Nat) : xpN (cH sk L τ) 3 9 a v = some (cH sk L (tN τ a 9 v)) := c_pN h rfl (by decide) v
theorem C3v9 (h : ob sk L 3 a) (v : Nat) : xpR (cH sk L τ) 3 9 a v = some (cH sk L (tN τ a 9 (some v))) := c_pN h rfl (by decide) (some v)
theorem C3r10 (h : ob sk L 3 a) {q : Nat} (hq : fN τ a 10 = some q) : xgR (cH sk L τ) 3 10 a = some q := c_gR h rfl (by decide) hq
theorem C3n10 (h : ob sk L 3 a) : xgN (cH sk L τ) 3 10 a = some (fN τ a 10) := c_gN h rfl (by decide)
theorem C3w10 (h : ob sk L 3 a) (v : Option Nat) : xpN (cH sk L τ) 3 10 a v = some (cH sk L (tN τ a 10 v)) := c_pN h rfl (by decide) v
theorem C3v10 (h : ob sk L 3 a) (v : Nat) : xpR (cH sk L τ) 3 10 a v = some (cH sk L (tN τ a 10 (some v))) := c_pN h rfl (by decide) (some v)
theorem C3r11 (h : ob sk L 3 a) {q : Nat} (hq : fN τ a 11 = some q) : xgR (cH sk L τ) 3 11 a = some q := c_gR h rfl (by decide) hq
theorem C3n11 (h : ob sk L 3 a) : xgN (cH sk L τ) 3 11 a = some (fN τ a 11) := c_gN h rfl (by decide)
theorem C3w11 (h : ob sk L 3 a) (v : Option Nat) : xpN (cH sk L τ) 3 11 a v = some (cH sk L (tN τ a 11 v)) := c_pN h rfl (by decide) v
theorem C3v11 (h : ob sk L 3 a) (v : Nat) : xpR (cH sk L τ) 3 11 a v = some (cH sk L (tN τ a 11 (some v))) := c_pN h rfl (by decide) (some v)
theorem C3r12 (h : ob sk L 3 a) {q : Nat} (hq : fN τ a 12 = some q) : xgR (cH sk L τ) 3 12 a = some q := c_gR h rfl (by decide) hq
theorem C3n12 (h : ob sk L 3 a) : xgN (cH sk L τ) 3 12 a = some (fN τ a 12) := c_gN h rfl (by decide)
theorem C3w12 (h : ob sk L 3 a) (v : Option Nat) : xpN (cH sk L τ) 3 12 a v = some (cH sk L (tN τ a 12 v)) := c_pN h rfl (by decide) v
theorem C3v12 (h : ob sk L 3 a) (v : Nat) : xpR (cH sk L τ) 3 12 a v = some (cH sk L (tN τ a 12 (some v))) := c_pN h rfl (by decide) (some v)
theorem C3r13 (h : ob sk L 3 a) {q : Nat} (hq : fN τ a 13 = some q) : xgR (cH sk L τ) 3 13 a = some q := c_gR h rfl (by decide) hq
theorem C3n13 (h : ob sk L 3 a) : xgN (cH sk L τ) 3 13 a = some (fN τ a 13) := c_gN h rfl (by decide)
theorem C3w13 (h : ob sk L 3 a) (v : Option Nat) : xpN (cH sk L τ) 3 13 a v = some (cH sk L (tN τ a 13 v)) := c_pN h rfl (by decide) v
theorem C3v13 (h : ob sk L 3 a) (v : Nat) : xpR (cH sk L τ) 3 13 a v = some (cH sk L (tN τ a 13 (some v))) := c_pN h rfl (by decide) (some v)
theorem C3g14 (h : ob sk L 3 a) : xgI (cH sk L τ) 3 14 a = some (fI τ a 14) := c_gI h rfl (by decide)
theorem C3p14 (h : ob sk L 3 a) (v : Int32) : xpI (cH sk L τ) 3 14 a v = some (cH sk L (tI τ a 14 v)) := c_pI h rfl (by decide) v
theorem C3g15 (h : ob sk L 3 a) : xgI (cH sk L τ) 3 15 a = some (fI τ a 15) := c_gI h rfl (by decide)
theorem C3p15 (h : ob sk L 3 a) (v : Int32) : xpI (cH sk L τ) 3 15 a v = some (cH sk L (tI τ a 15 v)) := c_pI h rfl (by decide) v
theorem C3g16 (h : ob sk L 3 a) : xgI (cH sk L τ) 3 16 a = some (fI τ a 16) := c_gI h rfl (by decide)
theorem C3p16 (h : ob sk L 3 a) (v : Int32) : xpI (cH sk L τ) 3 16 a v = some (cH sk L (tI τ a 16 v)) := c_pI h rfl (by decide) v
theorem C3g17 (h : ob sk L 3 a) : xgI (cH sk L τ) 3 17 a = some (fI τ a 17) := c_gI h rfl (by decide)
theorem C3p17 (h : ob sk L 3 a) (v : Int32) : xpI (cH sk L τ) 3 17 a v = some (cH sk L (tI τ a 17 v)) := c_pI h rfl (by decide) v
theorem C3g18 (h : ob sk L 3 a) : xgI (cH sk L τ) 3 18 a = some (fI τ a 18) := c_gI h rfl (by decide)
theorem C3p18 (h : ob sk L 3 a) (v : Int32) : xpI (cH sk L τ) 3 18 a v = some (cH sk L (tI τ a 18 v)) := c_pI h rfl (by decide) v
theorem C3g19 (h : ob sk L 3 a) : xgJ (cH sk L τ) 3 19 a = some (fJ τ a 19) := c_gJ h rfl (by decide)
theorem C3p19 (h : ob sk L 3 a) (v : Int64) : xpJ (cH sk L τ) 3 19 a v = some (cH sk L (tJ τ a 19 v)) := c_pJ h rfl (by decide) v
theorem C4r0 (h : ob sk L 4 a) {q : Nat} (hq : fN τ a 0 = some q) : xgR (cH sk L τ) 4 0 a = some q := c_gR h rfl (by decide) hq
theorem C4n0 (h : ob sk L 4 a) : xgN (cH sk L τ) 4 0 a = some (fN τ a 0) := c_gN h rfl (by decide)
theorem C4w0 (h : ob sk L 4 a) (v : Option Nat) : xpN (cH sk L τ) 4 0 a v = some (cH sk L (tN τ a 0 v)) := c_pN h rfl (by decide) v
theorem C4v0 (h : ob sk L 4 a) (v : Nat) : xpR (cH sk L τ) 4 0 a v = some (cH sk L (tN τ a 0 (some v))) := c_pN h rfl (by decide) (some v)
theorem C4r1 (h : ob sk L 4 a) {q : Nat} (hq : fN τ a 1 = some q) : xgR (cH sk L τ) 4 1 a = some q := c_gR h rfl (by decide) hq
theorem C4n1 (h : ob sk L 4 a) : xgN (cH sk L τ) 4 1 a = some (fN τ a 1) := c_gN h rfl (by decide)
theorem C4w1 (h : ob sk L 4 a) (v : Option Nat) : xpN (cH sk L τ) 4 1 a v = some (cH sk L (tN τ a 1 v)) := c_pN h rfl (by decide) v
theorem C4v1 (h : ob sk L 4 a) (v : Nat) : xpR (cH sk L τ) 4 1 a v = some (cH sk L (tN τ a 1 (some v))) := c_pN h rfl (by decide) (some v)
theorem C4r2 (h : ob sk L 4 a) {q : Nat} (hq : fN τ a 2 = some q) : xgR (cH sk L τ) 4 2 a = some q := c_gR h rfl (by decide) hq
theorem C4n2 (h : ob sk L 4 a) : xgN (cH sk L τ) 4 2 a = some (fN τ a 2) := c_gN h rfl (by decide)
theorem C4w2 (h : ob sk L 4 a) (v : Option Nat) : xpN (cH sk L τ) 4 2 a v = some (cH sk L (tN τ a 2 v)) := c_pN h rfl (by decide) v
theorem C4v2 (h : ob sk L 4 a) (v : Nat) : xpR (cH sk L τ) 4 2 a v = some (cH sk L (tN τ a 2 (some v))) := c_pN h rfl (by decide) (some v)
theorem C4r3 (h : ob sk L 4 a) {q : Nat} (hq : fN τ a 3 = some q) : xgR (cH sk L τ) 4 3 a = some q := c_gR h rfl (by decide) hq
theorem C4n3 (h : ob sk L 4 a) : xgN (cH sk L τ) 4 3 a = some (fN τ a 3) := c_gN h rfl (by decide)
theorem C4w3 (h : ob sk L 4 a) (v : Option Nat) : xpN (cH sk L τ) 4 3 a v = some (cH sk L (tN τ a 3 v)) := c_pN h rfl (by decide) v
theorem C4v3 (h : ob sk L 4 a) (v : Nat) : xpR (cH sk L τ) 4 3 a v = some (cH sk L (tN τ a 3 (some v))) := c_pN h rfl (by decide) (some v)
theorem C4r4 (h : ob sk L 4 a) {q : Nat} (hq : fN τ a 4 = some q) : xgR (cH sk L τ) 4 4 a = some q := c_gR h rfl (by decide) hq
theorem C4n4 (h : ob sk L 4 a) : xgN (cH sk L τ) 4 4 a = some (fN τ a 4) := c_gN h rfl (by decide)
theorem C4w4 (h : ob sk L 4 a) (v : Option Nat) : xpN (cH sk L τ) 4 4 a v = some (cH sk L (tN τ a 4 v)) := c_pN h rfl (by decide) v
theorem C4v4 (h : ob sk L 4 a) (v : Nat) : xpR (cH sk L τ) 4 4 a v = some (cH sk L (tN τ a 4 (some v))) := c_pN h rfl (by decide) (some v)
theorem C4r5 (h : ob sk L 4 a) {q : Nat} (hq : fN τ a 5 = some q) : xgR (cH sk L τ) 4 5 a = some q := c_gR h rfl (by decide) hq
theorem C4n5 (h : ob sk L 4 a) : xgN (cH sk L τ) 4 5 a = some (fN τ a 5) := c_gN h rfl (by decide)
theorem C4w5 (h : ob sk L 4 a) (v : Option Nat) : xpN (cH sk L τ) 4 5 a v = some (cH sk L (tN τ a 5 v)) := c_pN h rfl (by decide) v
theorem C4v5 (h : ob sk L 4 a) (v : Nat) : xpR (cH sk L τ) 4 5 a v = some (cH sk L (tN τ a 5 (some v))) := c_pN h rfl (by decide) (some v)
theorem C4g6 (h : ob sk L 4 a) : xgI (cH sk L τ) 4 6 a = some (fI τ a 6) := c_gI h rfl (by decide)
theorem C4p6 (h : ob sk L 4 a) (v : Int32) : xpI (cH sk L τ) 4 6 a v = some (cH sk L (tI τ a 6 v)) := c_pI h rfl (by decide) v
theorem C4g7 (h : ob sk L 4 a) : xgJ (cH sk L τ) 4 7 a = some (fJ τ a 7) := c_gJ h rfl (by decide)
theorem C4p7 (h : ob sk L 4 a) (v : Int64) : xpJ (cH sk L τ) 4 7 a v = some (cH sk L (tJ τ a 7 v)) := c_pJ h rfl (by decide) v
theorem C4g8 (h : ob sk L 4 a) : xgI (cH sk L τ) 4 8 a = some (fI τ a 8) := c_gI h rfl (by decide)
theorem C4p8 (h : ob sk L 4 a) (v : Int32) : xpI (cH sk L τ) 4 8 a v = some (cH sk L (tI τ a 8 v)) := c_pI h rfl (by decide) v
theorem C4g9 (h : ob sk L 4 a) : xgI (cH sk L τ) 4 9 a = some (fI τ a 9) := c_gI h rfl (by decide)
theorem C4p9 (h : ob sk L 4 a) (v : Int32) : xpI (cH sk L τ) 4 9 a v = some (cH sk L (tI τ a 9 v)) := c_pI h rfl (by decide) v
theorem C4g10 (h : ob sk L 4 a) : xgI (cH sk L τ) 4 10 a = some (fI τ a 10) := c_gI h rfl (by decide)
theorem C4p10 (h : ob sk L 4 a) (v : Int32) : xpI (cH sk L τ) 4 10 a v = some (cH sk L (tI τ a 10 v)) := c_pI h rfl (by decide) v
theorem C4g11 (h : ob sk L 4 a) : xgI (cH sk L τ) 4 11 a = some (fI τ a 11) := c_gI h rfl (by decide)
theorem C4p11 (h : ob sk L 4 a) (v : Int32) : xpI (cH sk L τ) 4 11 a v = some (cH sk L (tI τ a 11 v)) := c_pI h rfl (by decide) v
theorem C4g12 (h : ob sk L 4 a) : xgI (cH sk L τ) 4 12 a = some (fI τ a 12) := c_gI h rfl (by decide)
theorem C4p12 (h : ob sk L 4 a) (v : Int32) : xpI (cH sk L τ) 4 12 a v = some (cH sk L (tI τ a 12 v)) := c_pI h rfl (by decide) v
theorem C5g0 (h : ob sk L 5 a) : xgJ (cH sk L τ) 5 0 a = some (fJ τ a 0) := c_gJ h rfl (by decide)
theorem C5p0 (h : ob sk L 5 a) (v : Int64) : xpJ (cH sk L τ) 5 0 a v = some (cH sk L (tJ τ a 0 v)) := c_pJ h rfl (by decide) v
theorem C5g1 (h : ob sk L 5 a) : xgJ (cH sk L τ) 5 1 a = some (fJ τ a 1) := c_gJ h rfl (by decide)
theorem C5p1 (h : ob sk L 5 a) (v : Int64) : xpJ (cH sk L τ) 5 1 a v = some (cH sk L (tJ τ a 1 v)) := c_pJ h rfl (by decide) v
theorem C5g2 (h : ob sk L 5 a) : xgJ (cH sk L τ) 5 2 a = some (fJ τ a 2) := c_gJ h rfl (by decide)
theorem C5p2 (h : ob sk L 5 a) (v : Int64) : xpJ (cH sk L τ) 5 2 a v = some (cH sk L (tJ τ a 2 v)) := c_pJ h rfl (by decide) v
theorem C5g3 (h : ob sk L 5 a) : xgI (cH sk L τ) 5 3 a = some (fI τ a 3) := c_gI h rfl (by decide)
theorem C5p3 (h : ob sk L 5 a) (v : Int32) : xpI (cH sk L τ) 5 3 a v = some (cH sk L (tI τ a 3 v)) := c_pI h rfl (by decide) v
theorem C5g4 (h : ob sk L 5 a) : xgI (cH sk L τ) 5 4 a = some (fI τ a 4) := c_gI h rfl (by decide)
theorem C5p4 (h : ob sk L 5 a) (v : Int32) : xpI (cH sk L τ) 5 4 a v = some (cH sk L (tI τ a 4 v)) := c_pI h rfl (by decide) v
theorem C5g5 (h : ob sk L 5 a) : xgI (cH sk L τ) 5 5 a = some (fI τ a 5) := c_gI h rfl (by decide)
theorem C5p5 (h : ob sk L 5 a) (v : Int32) : xpI (cH sk L τ) 5 5 a v = some (cH sk L (tI τ a 5 v)) := c_pI h rfl (by decide) v
theorem C5r6 (h : ob sk L 5 a) {q : Nat} (hq : fN τ a 6 = some q) : xgR (cH sk L τ) 5 6 a = some q := c_gR h rfl (by decide) hq
theorem C5n6 (h : ob sk L 5 a) : xgN (cH sk L τ) 5 6 a = some (fN τ a 6) := c_gN h rfl (by decide)
theorem C5w6 (h : ob sk L 5 a) (v : Option Nat) : xpN (cH sk L τ) 5 6 a v = some (cH sk L (tN τ a 6 v)) := c_pN h rfl (by decide) v
theorem C5v6 (h : ob sk L 5 a) (v : Nat) : xpR (cH sk L τ) 5 6 a v = some (cH sk L (tN τ a 6 (some v))) := c_pN h rfl (by decide) (some v)
theorem C5g7 (h : ob sk L 5 a) : xgJ (cH sk L τ) 5 7 a = some (fJ τ a 7) := c_gJ h rfl (by decide)
theorem C5p7 (h : ob sk L 5 a) (v : Int64) : xpJ (cH sk L τ) 5 7 a v = some (cH sk L (tJ τ a 7 v)) := c_pJ h rfl (by decide) v
theorem C5g8 (h : ob sk L 5 a) : xgJ (cH sk L τ) 5 8 a = some (fJ τ a 8) := c_gJ h rfl (by decide)
theorem C5p8 (h : ob sk L 5 a) (v : Int64) : xpJ (cH sk L τ) 5 8 a v = some (cH sk L (tJ τ a 8 v)) := c_pJ h rfl (by decide) v
theorem C5g9 (h : ob sk L 5 a) : xgI (cH sk L τ) 5 9 a = some (fI τ a 9) := c_gI h rfl (by decide)
theorem C5p9 (h : ob sk L 5 a) (v : Int32) : xpI (cH sk L τ) 5 9 a v = some (cH sk L (tI τ a 9 v)) := c_pI h rfl (by decide) v
theorem C5g10 (h : ob sk L 5 a) : xgI (cH sk L τ) 5 10 a = some (fI τ a 10) := c_gI h rfl (by decide)
theorem C5z10 (h : ob sk L 5 a) (v : Bool) : xpZ (cH sk L τ) 5 10 a (bI v) = some (cH sk L (tI τ a 10 (bI v))) := c_pZ h rfl (by decide) v
theorem C5g11 (h : ob sk L 5 a) : xgI (cH sk L τ) 5 11 a = some (fI τ a 11) := c_gI h rfl (by decide)
theorem C5z11 (h : ob sk L 5 a) (v : Bool) : xpZ (cH sk L τ) 5 11 a (bI v) = some (cH sk L (tI τ a 11 (bI v))) := c_pZ h rfl (by decide) v
theorem C5g12 (h : ob sk L 5 a) : xgI (cH sk L τ) 5 12 a = some (fI τ a 12) := c_gI h rfl (by decide)
theorem C5z12 (h : ob sk L 5 a) (v : Bool) : xpZ (cH sk L τ) 5 12 a (bI v) = some (cH sk L (tI τ a 12 (bI v))) := c_pZ h rfl (by decide) v
theorem C5g13 (h : ob sk L 5 a) : xgI (cH sk L τ) 5 13 a = some (fI τ a 13) := c_gI h rfl (by decide)
theorem C5z13 (h : ob sk L 5 a) (v : Bool) : xpZ (cH sk L τ) 5 13 a (bI v) = some (cH sk L (tI τ a 13 (bI v))) := c_pZ h rfl (by decide) v
theorem C5g14 (h : ob sk L 5 a) : xgJ (cH sk L τ) 5 14 a = some (fJ τ a 14) := c_gJ h rfl (by decide)
theorem C5p14 (h : ob sk L 5 a) (v : Int64) : xpJ (cH sk L τ) 5 14 a v = some (cH sk L (tJ τ a 14 v)) := c_pJ h rfl (by decide) v
theorem C5g15 (h : ob sk L 5 a) : xgI (cH sk L τ) 5 15 a = some (fI τ a 15) := c_gI h rfl (by decide)
theorem C5p15 (h : ob sk L 5 a) (v : Int32) : xpI (cH sk L τ) 5 15 a v = some (cH sk L (tI τ a 15 v)) := c_pI h rfl (by decide) v
theorem C5g16 (h : ob sk L 5 a) : xgI (cH sk L τ) 5 16 a = some (fI τ a 16) := c_gI h rfl (by decide)
theorem C5p16 (h : ob sk L 5 a) (v : Int32) : xpI (cH sk L τ) 5 16 a v = some (cH sk L (tI τ a 16 v)) := c_pI h rfl (by decide) v
theorem C5g17 (h : ob sk L 5 a) : xgI (cH sk L τ) 5 17 a = some (fI τ a 17) := c_gI h rfl (by decide)
theorem C5p17 (h : ob sk L 5 a) (v : Int32) : xpI (cH sk L τ) 5 17 a v = some (cH sk L (tI τ a 17 v)) := c_pI h rfl (by decide) v
theorem C6r0 (h : ob sk L 6 a) {q : Nat} (hq : fN τ a 0 = some q) : xgR (cH sk L τ) 6 0 a = some q := c_gR h rfl (by decide) hq
theorem C6n0 (h : ob sk L 6 a) : xgN (cH sk L τ) 6 0 a = some (fN τ a 0) := c_gN h rfl (by decide)
theorem C6w0 (h : ob sk L 6 a) (v : Option Nat) : xpN (cH sk L τ) 6 0 a v = some (cH sk L (tN τ a 0 v)) := c_pN h rfl (by decide) v
theorem C6v0 (h : ob sk L 6 a) (v : Nat) : xpR (cH sk L τ) 6 0 a v = some (cH sk L (tN τ a 0 (some v))) := c_pN h rfl (by decide) (some v)
theorem C6r1 (h : ob sk L 6 a) {q : Nat} (hq : fN τ a 1 = some q) : xgR (cH sk L τ) 6 1 a = some q := c_gR h rfl (by decide) hq
theorem C6n1 (h : ob sk L 6 a) : xgN (cH sk L τ) 6 1 a = some (fN τ a 1) := c_gN h rfl (by decide)
theorem C6w1 (h : ob sk L 6 a) (v : Option Nat) : xpN (cH sk L τ) 6 1 a v = some (cH sk L (tN τ a 1 v)) := c_pN h rfl (by decide) v
theorem C6v1 (h : ob sk L 6 a) (v : Nat) : xpR (cH sk L τ) 6 1 a v = some (cH sk L (tN τ a 1 (some v))) := c_pN h rfl (by decide) (some v)
theorem C6g2 (h : ob sk L 6 a) : xgI (cH sk L τ) 6 2 a = some (fI τ a 2) := c_gI h rfl (by decide)
theorem C6p2 (h : ob sk L 6 a) (v : Int32) : xpI (cH sk L τ) 6 2 a v = some (cH sk L (tI τ a 2 v)) := c_pI h rfl (by decide) v
theorem C7r0 (h : ob sk L 7 a) {q : Nat} (hq : fN τ a 0 = some q) : xgR (cH sk L τ) 7 0 a = some q := c_gR h rfl (by decide) hq
theorem C7n0 (h : ob sk L 7 a) : xgN (cH sk L τ) 7 0 a = some (fN τ a 0) := c_gN h rfl (by decide)
theorem C7w0 (h : ob sk L 7 a) (v : Option Nat) : xpN (cH sk L τ) 7 0 a v = some (cH sk L (tN τ a 0 v)) := c_pN h rfl (by decide) v
theorem C7v0 (h : ob sk L 7 a) (v : Nat) : xpR (cH sk L τ) 7 0 a v = some (cH sk L (tN τ a 0 (some v))) := c_pN h rfl (by decide) (some v)
theorem C7g1 (h : ob sk L 7 a) : xgI (cH sk L τ) 7 1 a = some (fI τ a 1) := c_gI h rfl (by decide)
theorem C7p1 (h : ob sk L 7 a) (v : Int32) : xpI (cH sk L τ) 7 1 a v = some (cH sk L (tI τ a 1 v)) := c_pI h rfl (by decide) v
theorem C7g2 (h : ob sk L 7 a) : xgI (cH sk L τ) 7 2 a = some (fI τ a 2) := c_gI h rfl (by decide)
theorem C7p2 (h : ob sk L 7 a) (v : Int32) : xpI (cH sk L τ) 7 2 a v = some (cH sk L (tI τ a 2 v)) := c_pI h rfl (by decide) v
theorem C7r3 (h : ob sk L 7 a) {q : Nat} (hq : fN τ a 3 = some q) : xgR (cH sk L τ) 7 3 a = some q := c_gR h rfl (by decide) hq
theorem C7n3 (h : ob sk L 7 a) : xgN (cH sk L τ) 7 3 a = some (fN τ a 3) := c_gN h rfl (by decide)
theorem C7w3 (h : ob sk L 7 a) (v : Option Nat) : xpN (cH sk L τ) 7 3 a v = some (cH sk L (tN τ a 3 v)) := c_pN h rfl (by decide) v
theorem C7v3 (h : ob sk L 7 a) (v : Nat) : xpR (cH sk L τ) 7 3 a v = some (cH sk L (tN τ a 3 (some v))) := c_pN h rfl (by decide) (some v)
theorem C7g4 (h : ob sk L 7 a) : xgI (cH sk L τ) 7 4 a = some (fI τ a 4) := c_gI h rfl (by decide)
theorem C7p4 (h : ob sk L 7 a) (v : Int32) : xpI (cH sk L τ) 7 4 a v = some (cH sk L (tI τ a 4 v)) := c_pI h rfl (by decide) v
theorem C7g5 (h : ob sk L 7 a) : xgI (cH sk L τ) 7 5 a = some (fI τ a 5) := c_gI h rfl (by decide)
theorem C7p5 (h : ob sk L 7 a) (v : Int32) : xpI (cH sk L τ) 7 5 a v = some (cH sk L (tI τ a 5 v)) := c_pI h rfl (by decide) v
theorem C7g6 (h : ob sk L 7 a) : xgI (cH sk L τ) 7 6 a = some (fI τ a 6) := c_gI h rfl (by decide)
theorem C7p6 (h : ob sk L 7 a) (v : Int32) : xpI (cH sk L τ) 7 6 a v = some (cH sk L (tI τ a 6 v)) := c_pI h rfl (by decide) v
theorem C7g7 (h : ob sk L 7 a) : xgI (cH sk L τ) 7 7 a = some (fI τ a 7) := c_gI h rfl (by decide)
theorem C7p7 (h : ob sk L 7 a) (v : Int32) : xpI (cH sk L τ) 7 7 a v = some (cH sk L (tI τ a 7 v)) := c_pI h rfl (by decide) v
theorem C7g8 (h : ob sk L 7 a) : xgI (cH sk L τ) 7 8 a = some (fI τ a 8) := c_gI h rfl (by decide)
theorem C7p8 (h : ob sk L 7 a) (v : Int32) : xpI (cH sk L τ) 7 8 a v = some (cH sk L (tI τ a 8 v)) := c_pI h rfl (by decide) v
theorem C7g9 (h : ob sk L 7 a) : xgI (cH sk L τ) 7 9 a = some (fI τ a 9) := c_gI h rfl (by decide)
theorem C7p9 (h : ob sk L 7 a) (v : Int32) : xpI (cH sk L τ) 7 9 a v = some (cH sk L (tI τ a 9 v)) := c_pI h rfl (by decide) v
theorem C7g10 (h : ob sk L 7 a) : xgI (cH sk L τ) 7 10 a = some (fI τ a 10) := c_gI h rfl (by decide)
theorem C7p10 (h : ob sk L 7 a) (v : Int32) : xpI (cH sk L τ) 7 10 a v = some (cH sk L (tI τ a 10 v)) := c_pI h rfl (by decide) v
theorem C7g11 (h : ob sk L 7 a) : xgI (cH sk L τ) 7 11 a = some (fI τ a 11) := c_gI h rfl (by decide)
theorem C7p11 (h : ob sk L 7 a) (v : Int32) : xpI (cH sk L τ) 7 11 a v = some (cH sk L (tI τ a 11 v)) := c_pI h rfl (by decide) v
theorem C7g12 (h : ob sk L 7 a) : xgI (cH sk L τ) 7 12 a = some (fI τ a 12) := c_gI h rfl (by decide)
theorem C7p12 (h : ob sk L 7 a) (v : Int32) : xpI (cH sk L τ) 7 12 a v = some (cH sk L (tI τ a 12 v)) := c_pI h rfl (by decide) v
theorem C7g13 (h : ob sk L 7 a) : xgI (cH sk L τ) 7 13 a = some (fI τ a 13) := c_gI h rfl (by decide)
theorem C7p13 (h : ob sk L 7 a) (v : Int32) : xpI (cH sk L τ) 7 13 a v = some (cH sk L (tI τ a 13 v)) := c_pI h rfl (by decide) v
theorem C7g14 (h : ob sk L 7 a) : xgI (cH sk L τ) 7 14 a = some (fI τ a 14) := c_gI h rfl (by decide)
theorem C7p14 (h : ob sk L 7 a) (v : Int32) : xpI (cH sk L τ) 7 14 a v = some (cH sk L (tI τ a 14 v)) := c_pI h rfl (by decide) v
theorem C7g15 (h : ob sk L 7 a) : xgI (cH sk L τ) 7 15 a = some (fI τ a 15) := c_gI h rfl (by decide)
theorem C7z15 (h : ob sk L 7 a) (v : Bool) : xpZ (cH sk L τ) 7 15 a (bI v) = some (cH sk L (tI τ a 15 (bI v))) := c_pZ h rfl (by decide) v
theorem C7g16 (h : ob sk L 7 a) : xgI (cH sk L τ) 7 16 a = some (fI τ a 16) := c_gI h rfl (by decide)
theorem C7p16 (h : ob sk L 7 a) (v : Int32) : xpI (cH sk L τ) 7 16 a v = some (cH sk L (tI τ a 16 v)) := c_pI h rfl (by decide) v
theorem C8g0 (h : ob sk L 8 a) : xgI (cH sk L τ) 8 0 a = some (fI τ a 0) := c_gI h rfl (by decide)
theorem C8p0 (h : ob sk L 8 a) (v : Int32) : xpI (cH sk L τ) 8 0 a v = some (cH sk L (tI τ a 0 v)) := c_pI h rfl (by decide) v
theorem C8g1 (h : ob sk L 8 a) : xgI (cH sk L τ) 8 1 a = some (fI τ a 1) := c_gI h rfl (by decide)
theorem C8p1 (h : ob sk L 8 a) (v : Int32) : xpI (cH sk L τ) 8 1 a v = some (cH sk L (tI τ a 1 v)) := c_pI h rfl (by decide) v
theorem C8g2 (h : ob sk L 8 a) : xgI (cH sk L τ) 8 2 a = some (fI τ a 2) := c_gI h rfl (by decide)
theorem C8p2 (h : ob sk L 8 a) (v : Int32) : xpI (cH sk L τ) 8 2 a v = some (cH sk L (tI τ a 2 v)) := c_pI h rfl (by decide) v
theorem C8g3 (h : ob sk L 8 a) : xgI (cH sk L τ) 8 3 a = some (fI τ a 3) := c_gI h rfl (by decide)
theorem C8p3 (h : ob sk L 8 a) (v : Int32) : xpI (cH sk L τ) 8 3 a v = some (cH sk L (tI τ a 3 v)) := c_pI h rfl (by decide) v
theorem C8g4 (h : ob sk L 8 a) : xgI (cH sk L τ) 8 4 a = some (fI τ a 4) := c_gI h rfl (by decide)
theorem C8p4 (h : ob sk L 8 a) (v : Int32) : xpI (cH sk L τ) 8 4 a v = some (cH sk L (tI τ a 4 v)) := c_pI h rfl (by decide) v
theorem C8g5 (h : ob sk L 8 a) : xgI (cH sk L τ) 8 5 a = some (fI τ a 5) := c_gI h rfl (by decide)
theorem C8p5 (h : ob sk L 8 a) (v : Int32) : xpI (cH sk L τ) 8 5 a v = some (cH sk L (tI τ a 5 v)) := c_pI h rfl (by decide) v
theorem C8g6 (h : ob sk L 8 a) : xgI (cH sk L τ) 8 6 a = some (fI τ a 6) := c_gI h rfl (by decide)
theorem C8p6 (h : ob sk L 8 a) (v : Int32) : xpI (cH sk L τ) 8 6 a v = some (cH sk L (tI τ a 6 v)) := c_pI h rfl (by decide) v
theorem C8g7 (h : ob sk L 8 a) : xgI (cH sk L τ) 8 7 a = some (fI τ a 7) := c_gI h rfl (by decide)
theorem C8p7 (h : ob sk L 8 a) (v : Int32) : xpI (cH sk L τ) 8 7 a v = some (cH sk L (tI τ a 7 v)) := c_pI h rfl (by decide) v
theorem C8g8 (h : ob sk L 8 a) : xgI (cH sk L τ) 8 8 a = some (fI τ a 8) := c_gI h rfl (by decide)
theorem C8p8 (h : ob sk L 8 a) (v : Int32) : xpI (cH sk L τ) 8 8 a v = some (cH sk L (tI τ a 8 v)) := c_pI h rfl (by decide) v
theorem C8g9 (h : ob sk L 8 a) : xgI (cH sk L τ) 8 9 a = some (fI τ a 9) := c_gI h rfl (by decide)
theorem C8z9 (h : ob sk L 8 a) (v : Bool) : xpZ (cH sk L τ) 8 9 a (bI v) = some (cH sk L (tI τ a 9 (bI v))) := c_pZ h rfl (by decide) v
theorem C8g10 (h : ob sk L 8 a) : xgI (cH sk L τ) 8 10 a = some (fI τ a 10) := c_gI h rfl (by decide)
theorem C8z10 (h : ob sk L 8 a) (v : Bool) : xpZ (cH sk L τ) 8 10 a (bI v) = some (cH sk L (tI τ a 10 (bI v))) := c_pZ h rfl (by decide) v
theorem C8g11 (h : ob sk L 8 a) : xgJ (cH sk L τ) 8 11 a = some (fJ τ a 11) := c_gJ h rfl (by decide)
theorem C8p11 (h : ob sk L 8 a) (v : Int64) : xpJ (cH sk L τ) 8 11 a v = some (cH sk L (tJ τ a 11 v)) := c_pJ h rfl (by decide) v
theorem C8g12 (h : ob sk L 8 a) : xgI (cH sk L τ) 8 12 a = some (fI τ a 12) := c_gI h rfl (by decide)
theorem C8p12 (h : ob sk L 8 a) (v : Int32) : xpI (cH sk L τ) 8 12 a v = some (cH sk L (tI τ a 12 v)) := c_pI h rfl (by decide) v
theorem C9r0 (h : ob sk L 9 a) {q : Nat} (hq : fN τ a 0 = some q) : xgR (cH sk L τ) 9 0 a = some q := c_gR h rfl (by decide) hq
theorem C9n0 (h : ob sk L 9 a) : xgN (cH sk L τ) 9 0 a = some (fN τ a 0) := c_gN h rfl (by decide)
theorem C9w0 (h : ob sk L 9 a) (v : Option Nat) : xpN (cH sk L τ) 9 0 a v = some (cH sk L (tN τ a 0 v)) := c_pN h rfl (by decide) v
theorem C9v0 (h : ob sk L 9 a) (v : Nat) : xpR (cH sk L τ) 9 0 a v = some (cH sk L (tN τ a 0 (some v))) := c_pN h rfl (by decide) (some v)
theorem C9r1 (h : ob sk L 9 a) {q : Nat} (hq : fN τ a 1 = some q) : xgR (cH sk L τ) 9 1 a = some q := c_gR h rfl (by decide) hq
theorem C9n1 (h : ob sk L 9 a) : xgN (cH sk L τ) 9 1 a = some (fN τ a 1) := c_gN h rfl (by decide)
theorem C9w1 (h : ob sk L 9 a) (v : Option Nat) : xpN (cH sk L τ) 9 1 a v = some (cH sk L (tN τ a 1 v)) := c_pN h rfl (by decide) v
theorem C9v1 (h : ob sk L 9 a) (v : Nat) : xpR (cH sk L τ) 9 1 a v = some (cH sk L (tN τ a 1 (some v))) := c_pN h rfl (by decide) (some v)
theorem C9r2 (h : ob sk L 9 a) {q : Nat} (hq : fN τ a 2 = some q) : xgR (cH sk L τ) 9 2 a = some q := c_gR h rfl (by decide) hq
theorem C9n2 (h : ob sk L 9 a) : xgN (cH sk L τ) 9 2 a = some (fN τ a 2) := c_gN h rfl (by decide)
theorem C9w2 (h : ob sk L 9 a) (v : Option Nat) : xpN (cH sk L τ) 9 2 a v = some (cH sk L (tN τ a 2 v)) := c_pN h rfl (by decide) v
theorem C9v2 (h : ob sk L 9 a) (v : Nat) : xpR (cH sk L τ) 9 2 a v = some (cH sk L (tN τ a 2 (some v))) := c_pN h rfl (by decide) (some v)
theorem C9g3 (h : ob sk L 9 a) : xgI (cH sk L τ) 9 3 a = some (fI τ a 3) := c_gI h rfl (by decide)
theorem C9p3 (h : ob sk L 9 a) (v : Int32) : xpI (cH sk L τ) 9 3 a v = some (cH sk L (tI τ a 3 v)) := c_pI h rfl (by decide) v
theorem C9g4 (h : ob sk L 9 a) : xgI (cH sk L τ) 9 4 a = some (fI τ a 4) := c_gI h rfl (by decide)
theorem C9p4 (h : ob sk L 9 a) (v : Int32) : xpI (cH sk L τ) 9 4 a v = some (cH sk L (tI τ a 4 v)) := c_pI h rfl (by decide) v
theorem C9g5 (h : ob sk L 9 a) : xgJ (cH sk L τ) 9 5 a = some (fJ τ a 5) := c_gJ h rfl (by decide)
theorem C9p5 (h : ob sk L 9 a) (v : Int64) : xpJ (cH sk L τ) 9 5 a v = some (cH sk L (tJ τ a 5 v)) := c_pJ h rfl (by decide) v
theorem C10r0 (h : ob sk L 10 a) {q : Nat} (hq : fN τ a 0 = some q) : xgR (cH sk L τ) 10 0 a = some q := c_gR h rfl (by decide) hq
theorem C10n0 (h : ob sk L 10 a) : xgN (cH sk L τ) 10 0 a = some (fN τ a 0) := c_gN h rfl (by decide)
theorem C10w0 (h : ob sk L 10 a) (v : Option Nat) : xpN (cH sk L τ) 10 0 a v = some (cH sk L (tN τ a 0 v)) := c_pN h rfl (by decide) v
theorem C10v0 (h : ob sk L 10 a) (v : Nat) : xpR (cH sk L τ) 10 0 a v = some (cH sk L (tN τ a 0 (some v))) := c_pN h rfl (by decide) (some v)
theorem C10g1 (h : ob sk L 10 a) : xgI (cH sk L τ) 10 1 a = some (fI τ a 1) := c_gI h rfl (by decide)
theorem C10p1 (h : ob sk L 10 a) (v : Int32) : xpI (cH sk L τ) 10 1 a v = some (cH sk L (tI τ a 1 v)) := c_pI h rfl (by decide) v
theorem C10g2 (h : ob sk L 10 a) : xgI (cH sk L τ) 10 2 a = some (fI τ a 2) := c_gI h rfl (by decide)
theorem C10z2 (h : ob sk L 10 a) (v : Bool) : xpZ (cH sk L τ) 10 2 a (bI v) = some (cH sk L (tI τ a 2 (bI v))) := c_pZ h rfl (by decide) v
theorem C11r0 (h : ob sk L 11 a) {q : Nat} (hq : fN τ a 0 = some q) : xgR (cH sk L τ) 11 0 a = some q := c_gR h rfl (by decide) hq
theorem C11n0 (h : ob sk L 11 a) : xgN (cH sk L τ) 11 0 a = some (fN τ a 0) := c_gN h rfl (by decide)
theorem C11w0 (h : ob sk L 11 a) (v : Option Nat) : xpN (cH sk L τ) 11 0 a v = some (cH sk L (tN τ a 0 v)) := c_pN h rfl (by decide) v
theorem C11v0 (h : ob sk L 11 a) (v : Nat) : xpR (cH sk L τ) 11 0 a v = some (cH sk L (tN τ a 0 (some v))) := c_pN h rfl (by decide) (some v)
theorem C11r1 (h : ob sk L 11 a) {q : Nat} (hq : fN τ a 1 = some q) : xgR (cH sk L τ) 11 1 a = some q := c_gR h rfl (by decide) hq
theorem C11n1 (h : ob sk L 11 a) : xgN (cH sk L τ) 11 1 a = some (fN τ a 1) := c_gN h rfl (by decide)
theorem C11w1 (h : ob sk L 11 a) (v : Option Nat) : xpN (cH sk L τ) 11 1 a v = some (cH sk L (tN τ a 1 v)) := c_pN h rfl (by decide) v
theorem C11v1 (h : ob sk L 11 a) (v : Nat) : xpR (cH sk L τ) 11 1 a v = some (cH sk L (tN τ a 1 (some v))) := c_pN h rfl (by decide) (some v)
theorem C11r2 (h : ob sk L 11 a) {q : Nat} (hq : fN τ a 2 = some q) : xgR (cH sk L τ) 11 2 a = some q := c_gR h rfl (by decide) hq
theorem C11n2 (h : ob sk L 11 a) : xgN (cH sk L τ) 11 2 a = some (fN τ a 2) := c_gN h rfl (by decide)
theorem C11w2 (h : ob sk L 11 a) (v : Option Nat) : xpN (cH sk L τ) 11 2 a v = some (cH sk L (tN τ a 2 v)) := c_pN h rfl (by decide) v
theorem C11v2 (h : ob sk L 11 a) (v : Nat) : xpR (cH sk L τ) 11 2 a v = some (cH sk L (tN τ a 2 (some v))) := c_pN h rfl (by decide) (some v)
theorem C11r3 (h : ob sk L 11 a) {q : Nat} (hq : fN τ a 3 = some q) : xgR (cH sk L τ) 11 3 a = some q := c_gR h rfl (by decide) hq
theorem C11n3 (h : ob sk L 11 a) : xgN (cH sk L τ) 11 3 a = some (fN τ a 3) := c_gN h rfl (by decide)
theorem C11w3 (h : ob sk L 11 a) (v : Option Nat) : xpN (cH sk L τ) 11 3 a v = some (cH sk L (tN τ a 3 v)) := c_pN h rfl (by decide) v
theorem C11v3 (h : ob sk L 11 a) (v : Nat) : xpR (cH sk L τ) 11 3 a v = some (cH sk L (tN τ a 3 (some v))) := c_pN h rfl (by decide) (some v)
theorem C11r4 (h : ob sk L 11 a) {q : Nat} (hq : fN τ a 4 = some q) : xgR (cH sk L τ) 11 4 a = some q := c_gR h rfl (by decide) hq
theorem C11n4 (h : ob sk L 11 a) : xgN (cH sk L τ) 11 4 a = some (fN τ a 4) := c_gN h rfl (by decide)
theorem C11w4 (h : ob sk L 11 a) (v : Option Nat) : xpN (cH sk L τ) 11 4 a v = some (cH sk L (tN τ a 4 v)) := c_pN h rfl (by decide) v
theorem C11v4 (h : ob sk L 11 a) (v : Nat) : xpR (cH sk L τ) 11 4 a v = some (cH sk L (tN τ a 4 (some v))) := c_pN h rfl (by decide) (some v)
theorem C11r5 (h : ob sk L 11 a) {q : Nat} (hq : fN τ a 5 = some q) : xgR (cH sk L τ) 11 5 a = some q := c_gR h rfl (by decide) hq
theorem C11n5 (h : ob sk L 11 a) : xgN (cH sk L τ) 11 5 a = some (fN τ a 5) := c_gN h rfl (by decide)
theorem C11w5 (h : ob sk L 11 a) (v : Option Nat) : xpN (cH sk L τ) 11 5 a v = some (cH sk L (tN τ a 5 v)) := c_pN h rfl (by decide) v
theorem C11v5 (h : ob sk L 11 a) (v : Nat) : xpR (cH sk L τ) 11 5 a v = some (cH sk L (tN τ a 5 (some v))) := c_pN h rfl (by decide) (some v)
theorem C11g6 (h : ob sk L 11 a) : xgI (cH sk L τ) 11 6 a = some (fI τ a 6) := c_gI h rfl (by decide)
theorem C11p6 (h : ob sk L 11 a) (v : Int32) : xpI (cH sk L τ) 11 6 a v = some (cH sk L (tI τ a 6 v)) := c_pI h rfl (by decide) v
theorem C11g7 (h : ob sk L 11 a) : xgI (cH sk L τ) 11 7 a = some (fI τ a 7) := c_gI h rfl (by decide)
theorem C11p7 (h : ob sk L 11 a) (v : Int32) : xpI (cH sk L τ) 11 7 a v = some (cH sk L (tI τ a 7 v)) := c_pI h rfl (by decide) v
theorem C11g8 (h : ob sk L 11 a) : xgI (cH sk L τ) 11 8 a = some (fI τ a 8) := c_gI h rfl (by decide)
theorem C11p8 (h : ob sk L 11 a) (v : Int32) : xpI (cH sk L τ) 11 8 a v = some (cH sk L (tI τ a 8 v)) := c_pI h rfl (by decide) v
end CF
end
section
/-! the class's objects: readers -/
/-- the object file at q: n bytes at base of the store's bytes S -/
def cO (sk : Nat → Nat × Nat × Nat) (L : Nat) (τ : px_TT) (q base n : Nat) (S : Nat → Int32) : Prop := ob sk L 7 q ∧ fN τ q 0 = some 7 ∧ ob sk L 10 7 ∧ fN τ 7 0 = some 8 ∧ ar sk L 0 65536 8 ∧ eI τ 8 = S ∧ fI τ q 5 = nI base ∧ fI τ q 6 = nI n ∧ base + n ≤ 65536 ∧ ∀ k, isB (S k)
def nm (b : Nat → Nat) (n x k : Nat) : Nat := if x + k ≤ n then le b x k else 0
theorem nm_in {b : Nat → Nat} {n x k : Nat} (h : x + k ≤ n) : nm b n x k = le b x k := if_pos h
theorem nm_lt {b : Nat → Nat} (hb : ∀ k, b k < 256) (n x k : Nat) : nm b n x k < 256 ^ k := by
  unfold nm
  split
  · exact le_lt hb _ _
  · exact Nat.pow_pos (by decide)
section COF
variable {F : Nat} {c : px_CT} {sk : Nat → Nat × Nat × Nat} {L q base n : Nat} {τ : px_TT} {S : Nat → Int32}
theorem k_num_49 {p : Nat} (ho : cO sk L τ q base n S) : ∀ (k x f : Nat), k < f → (x + 1) * 256 ^ k ≤ 2 ^ 64 → p + k ≤ 65536 → f_ObjectFile_num_49 F c f q (nI p) (lN x) (nI k - nI 1) (cH sk L τ) = some (lN (x * 256 ^ k + le (ub S) p k), cH sk L τ) := by
  obtain ⟨o1, o2, o3, o4, o5, o6, o7, o8, o9, o10⟩ := ho
  intro k
  induction k with
  | zero =>
    intro x f hf hx hp
    obtain ⟨f, rfl⟩ : ∃ g, f = g + 1 := ⟨f - 1, by omega⟩
    unfold f_ObjectFile_num_49
    rw [if_pos (by decide)]
    show some (lN x, cH sk L τ) = _
    rw [Nat.pow_zero, Nat.mul_one]
    rfl
  | succ k ih =>
    intro x f hf hx hp
    obtain ⟨f, rfl⟩ : ∃ g, f = g + 1 := ⟨f - 1, by omega⟩
    have e1 : nI (k + 1) - nI 1 = nI k := nI_pred k
    have e2 : (x + 1) * 256 ^ (k + 1) = (x + 1) * 256 * 256 ^ k := by rw [Nat.pow_succ, Nat.mul_comm (256 ^ k), Nat.mul_assoc]
    have e3 : 1 ≤ 256 ^ k := Nat.one_le_pow _ _ (by decide)
    have e4 : (x + 1) * 256 ≤ 2 ^ 64 := by
      have : (x + 1) * 256 * 1 ≤ (x + 1) * 256 * 256 ^ k := Nat.mul_le_mul_left _ e3
      omega
    have e5 := b8_lt (S (p + k))
    unfold f_ObjectFile_num_49
    rw [e1, if_neg (nI_pos (by omega)), C7r0 o1 o2, bs, C10r0 o3 o4, bs, nI_add, c_aI o5 (Or.inl rfl) (by decide) (by omega), bs, o6, sh_byte x _ (by omega), nI_back]
    have e6 : (x * 256 + b8 (S (p + k)) + 1) * 256 ^ k ≤ 2 ^ 64 := by
      have : (x * 256 + b8 (S (p + k)) + 1) * 256 ^ k ≤ (x + 1) * 256 * 256 ^ k := Nat.mul_le_mul_right _ (by omega)
      omega
    rw [ih _ f (by omega) e6 (by omega)]
    have e7 : (x * 256 + b8 (S (p + k))) * 256 ^ k + le (ub S) p k = x * 256 ^ (k + 1) + le (ub S) p (k + 1) := by
      show _ = x * 256 ^ (k + 1) + (ub S (p + k) * 256 ^ k + le (ub S) p k)
      rw [Nat.add_mul, Nat.mul_assoc, Nat.mul_comm 256, ← Nat.pow_succ, Nat.add_assoc]
      rfl
    rw [e7]
theorem nI_subI {a b : Nat} (ha : a < 2 ^ 30) (hb : b < 2 ^ 30) : (nI a - nI b).toInt = (a : Int) - (b : Int) := pk_sub_toInt ha hb
theorem k_num {x k : Nat} (ho : cO sk L τ q base n S) (hF : 8 < F) (hk : k ≤ 8) (hx : x < 2 ^ 30) : f_ObjectFile_num F c q (nI x) (nI k) (cH sk L τ) = some (lN (nm (cb S base n) n x k), cH sk L τ) := by
  have ho' := ho
  obtain ⟨o1, o2, o3, o4, o5, o6, o7, o8, o9, o10⟩ := ho
  unfold f_ObjectFile_num nm
  rw [C7g5 o1, bs, if_neg (nI_pos (by omega)), C7g6 o1, bs, o8, o7]
  by_cases c1 : x + k ≤ n
  · rw [if_neg (by rw [Int32.lt_iff_toInt_lt, nI_subI (by omega) (by omega), nI_toInt (by omega)]; omega), nI_add, if_neg (nI_pos (by omega)), C7r0 o1 o2, bs, C10r0 o3 o4, bs, c_l o5 (by decide), bs, if_pos (by rw [Int32.le_iff_toInt_le, nI_subI (by omega) (by omega), nI_toInt (by omega)]; omega), if_pos c1]
    have e : (0 + 1) * 256 ^ k ≤ 2 ^ 64 := by
      rw [Nat.zero_add, Nat.one_mul]
      exact Nat.pow_le_pow_right (n := 256) (by decide) hk
    rw [k_num_49 ho' k 0 F (by omega) e (by omega), Nat.zero_mul, Nat.zero_add, le_cb S base n x k c1]
  · rw [if_pos (by rw [Int32.lt_iff_toInt_lt, nI_subI (by omega) (by omega), nI_toInt (by omega)]; omega), if_neg c1]
    rfl
theorem k_above {a b : Nat} {h : px_H} (ha : a < 2 ^ 64) (hb : b < 2 ^ 64) : f_H_above F c (lN a) (lN b) h = some (bI (decide (b < a)), h) := by
  unfold f_H_above f_H_above_19
  by_cases e : a ≤ b
  · rw [if_pos ((ultL hb ha).mpr e), xz_0, decide_eq_false (by omega)]
  · rw [if_neg (fun q => e ((ultL hb ha).mp q)), xz_1, decide_eq_true (by omega)]
theorem lN_subm {a b : Nat} (hb : b < 2 ^ 64) (ha : a < b) : lN a - lN b = lN (a + 2 ^ 64 - b) := by
  have h1 : lN a = lN (a + 2 ^ 64) := by
    rw [wb_mod (a + 2 ^ 64), Nat.add_mod_right, ← wb_mod]
  rw [h1, lN_sub (by omega)]
theorem k_holds {a z : Nat} (ho : cO sk L τ q base n S) (ha : a < 2 ^ 64) (hz : z < 2 ^ 64) : f_ObjectFile_holds F c q (lN a) (lN z) (cH sk L τ) = some (bI (decide (a + z ≤ n)), cH sk L τ) := by
  obtain ⟨o1, o2, o3, o4, o5, o6, o7, o8, o9, o10⟩ := ho
  have k0 : (0 : Int32) = nI 0 := rfl
  unfold f_ObjectFile_holds
  rw [C7g6 o1, bs, o8, nI_l (by omega), k_above ha (by omega), xb_mk, C7g6 o1, bs, o8, nI_l (by omega), k0]
  simp only [bI_0, decide_eq_false_iff_not, f_ObjectFile_holds_30, f_ObjectFile_holds_31, xz_0, xz_1]
  by_cases c1 : n < a
  · rw [if_neg (fun e => e c1), decide_eq_false (by omega)]
  · rw [if_pos c1, lN_sub (by omega), k_above hz (by omega), xb_mk]
    simp only [bI_0, decide_eq_false_iff_not]
    by_cases c2 : n - a < z
    · rw [if_neg (fun e => e c2), decide_eq_false (by omega)]
    · rw [if_pos c2, decide_eq_true (by omega)]
theorem k_isPower {v : Nat} {h : px_H} (hv : v < 2 ^ 64) : f_H_isPower F c (lN v) h = some (bI (isP v), h) := by
  have := q_isPower (F := F) (h := h) hv
  exact this
/-- a reader of a section's row -/
theorem k_typeOf {r i : Nat} (ho : cO sk L τ q base n S) (hF : 8 < F) (hr : fI τ q 7 = nI r) (hx : r + 64 * i < 2 ^ 29) : f_ObjectFile_typeOf F c q (nI i) (cH sk L τ) = some (lN (nm (cb S base n) n (r + 64 * i + 4) 4), cH sk L τ) := by
  have o1 := ho.1
  unfold f_ObjectFile_typeOf
  rw [C7g7 o1, bs, c_o o1, bs, hr, pk_mul, nI_add, nI_add, k_num ho hF (by decide) (by omega), xb_mk]
theorem k_flagsOf {r i : Nat} (ho : cO sk L τ q base n S) (hF : 8 < F) (hr : fI τ q 7 = nI r) (hx : r + 64 * i < 2 ^ 29) : f_ObjectFile_flagsOf F c q (nI i) (cH sk L τ) = some (lN (nm (cb S base n) n (r + 64 * i + 8) 8), cH sk L τ) := by
  have o1 := ho.1
  unfold f_ObjectFile_flagsOf
  rw [C7g7 o1, bs, c_o o1, bs, hr, pk_mul, nI_add, nI_add, k_num ho hF (by decide) (by omega), xb_mk]
theorem k_placeOf {r i : Nat} (ho : cO sk L τ q base n S) (hF : 8 < F) (hr : fI τ q 7 = nI r) (hx : r + 64 * i < 2 ^ 29) : f_ObjectFile_placeOf F c q (nI i) (cH sk L τ) = some (lN (nm (cb S base n) n (r + 64 * i + 24) 8), cH sk L τ) := by
  have o1 := ho.1
  unfold f_ObjectFile_placeOf
  rw [C7g7 o1, bs, c_o o1, bs, hr, pk_mul, nI_add, nI_add, k_num ho hF (by decide) (by omega), xb_mk]
theorem k_lengthOf {r i : Nat} (ho : cO sk L τ q base n S) (hF : 8 < F) (hr : fI τ q 7 = nI r) (hx : r + 64 * i < 2 ^ 29) : f_ObjectFile_lengthOf F c q (nI i) (cH sk L τ) = some (lN (nm (cb S base n) n (r + 64 * i + 32) 8), cH sk L τ) := by
  have o1 := ho.1
  unfold f_ObjectFile_lengthOf
  rw [C7g7 o1, bs, c_o o1, bs, hr, pk_mul, nI_add, nI_add, k_num ho hF (by decide) (by omega), xb_mk]
theorem k_linkOf {r i : Nat} (ho : cO sk L τ q base n S) (hF : 8 < F) (hr : fI τ q 7 = nI r) (hx : r + 64 * i < 2 ^ 29) : f_ObjectFile_linkOf F c q (nI i) (cH sk L τ) = some (lN (nm (cb S base n) n (r + 64 * i + 40) 4), cH sk L τ) := by
  have o1 := ho.1
  unfold f_ObjectFile_linkOf
  rw [C7g7 o1, bs, c_o o1, bs, hr, pk_mul, nI_add, nI_add, k_num ho hF (by decide) (by omega), xb_mk]
theorem k_infoOf {r i : Nat} (ho : cO sk L τ q base n S) (hF : 8 < F) (hr : fI τ q 7 = nI r) (hx : r + 64 * i < 2 ^ 29) : f_ObjectFile_infoOf F c q (nI i) (cH sk L τ) = some (lN (nm (cb S base n) n (r + 64 * i + 44) 4), cH sk L τ) := by
  have o1 := ho.1
  unfold f_ObjectFile_infoOf
  rw [C7g7 o1, bs, c_o o1, bs, hr, pk_mul, nI_add, nI_add, k_num ho hF (by decide) (by omega), xb_mk]
theorem k_alignOf {r i : Nat} (ho : cO sk L τ q base n S) (hF : 8 < F) (hr : fI τ q 7 = nI r) (hx : r + 64 * i < 2 ^ 29) : f_ObjectFile_alignOf F c q (nI i) (cH sk L τ) = some (lN (nm (cb S base n) n (r + 64 * i + 48) 8), cH sk L τ) := by
  have o1 := ho.1
  unfold f_ObjectFile_alignOf
  rw [C7g7 o1, bs, c_o o1, bs, hr, pk_mul, nI_add, nI_add, k_num ho hF (by decide) (by omega), xb_mk]
end COF
end
