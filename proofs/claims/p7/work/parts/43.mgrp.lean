/-! the reference's errors of groups, and of an object -/
theorem Mmb {m : Nat} {h : px_H} {σ : px_S} (hm : m ≤ h.length) (hB : ∀ k, isB (gA σ 6 k)) : mb (mh m h σ) m (gA σ 6) := ⟨_, _, e_o hm, Mr6 hm, e_A (k := 6) hm rfl, hB⟩
theorem z_and (c : Bool) : bI c &&& 1 = bI c := by cases c <;> decide
theorem z_0 : nI 0 &&& 1 = bI false := by decide
theorem z_1 : nI 1 &&& 1 = bI true := by decide
/-- the number j of a group -/
def gN (b : Nat → Nat) (i j : Nat) : Nat := le b (oP b i + 4 * j) 4
/-- its numbers from j on, c of them: none is another section's, or was in a group before -/
def gl (b : Nat → Nat) (i : Nat) : Nat → Nat → (Nat → Bool) → Bool × (Nat → Bool)
  | _, 0, q => (true, q)
  | j, c + 1, q => if gN b i j < 1 ∨ oS b ≤ gN b i j ∨ q (gN b i j) = true then (false, q) else gl b i (j + 1) c (fun x => if x = gN b i j then true else q x)
theorem gl_s (b : Nat → Nat) (i j c : Nat) (q : Nat → Bool) : gl b i j (c + 1) q = if gN b i j < 1 ∨ oS b ≤ gN b i j ∨ q (gN b i j) = true then (false, q) else gl b i (j + 1) c (fun x => if x = gN b i j then true else q x) := rfl
def gH (b : Nat → Nat) (i : Nat) : Bool := decide (1 ≤ oZ b i ∧ oZ b i % 4 = 0 ∧ oY b ≠ 0 ∧ oL b i = oY b ∧ 1 ≤ oI b i ∧ oI b i < oM b ∧ yB b (oI b i) ≠ 0 ∧ gN b i 0 ≤ 1)
/-- all groups from section i on, c sections -/
def gs (b : Nat → Nat) : Nat → Nat → (Nat → Bool) → Bool
  | _, 0, _ => true
  | i, c + 1, q => if oT b i = 17 then (if gH b i = true then (if (gl b i 1 (oZ b i / 4 - 1) q).1 = true then gs b (i + 1) c (gl b i 1 (oZ b i / 4 - 1) q).2 else false) else false) else gs b (i + 1) c q
theorem gs_s (b : Nat → Nat) (i c : Nat) (q : Nat → Bool) : gs b i (c + 1) q = if oT b i = 17 then (if gH b i = true then (if (gl b i 1 (oZ b i / 4 - 1) q).1 = true then gs b (i + 1) c (gl b i 1 (oZ b i / 4 - 1) q).2 else false) else false) else gs b (i + 1) c q := rfl
def eGrp (b : Nat → Nat) : Nat := if gs b 1 (oS b - 1) (fun _ => false) = true then 0 else 9
section GRP
variable {F : Nat} {h : px_H} {m o n : Nat} {B : Nat → Int32} {σ : px_S}
theorem q_isGroup {i : Nat} (hb : mb h m B) (hF : 8 < F) (ho : rk B o n) (hi : i < oS (cb B o n)) : f_M_isGroup F m (nI o) (nI i) h = some (bI (decide (oT (cb B o n) i = 17)), h) := by
  obtain ⟨fs, h1⟩ := mb_o hb
  have e1 := oT_lt (cb_lt B o n) i
  simp only [f_M_isGroup, f_M_isGroup_18, h1, bs, xb_mk, q_type hb hF ho hi, lk, lEQ (show oT (cb B o n) i < 2 ^ 64 by omega) (show 17 < 2 ^ 64 by decide), xz_0, xz_1]
  by_cases c : oT (cb B o n) i = 17
  · rw [if_pos c, decide_eq_true c]
  · rw [if_neg c, decide_eq_false c]
theorem ar_g {n P Z j : Nat} (h1 : P + Z ≤ n) (hj : j < Z / 4) : P + 4 * j + 4 ≤ n := by omega
theorem q_groupNumber {i j : Nat} (hb : mb h m B) (hF : 8 < F) (ho : rk B o n) (hi : i < oS (cb B o n)) (hp : oP (cb B o n) i + 4 * j + 4 ≤ n) : f_M_groupNumber F m (nI o) (nI i) (nI j) h = some (lN (gN (cb B o n) i j), h) := by
  obtain ⟨fs, h1⟩ := mb_o hb
  unfold f_M_groupNumber
  rw [h1, bs, q_beginning hb hF ho hi, xb_mk, h1, bs, lN_i, pk_mul, nI_add, nI_add, Nat.add_assoc, q_numo hb hF (by decide) ho.1.2 hp, xb_mk]
  rfl
theorem gN_lt {b : Nat → Nat} (hb : ∀ k, b k < 256) (i j : Nat) : gN b i j < 4294967296 := le_lt hb _ 4
theorem q_isGroupRight_119 {i : Nat} (hF : 8 < F) (hw : w2 (cb B o n) n) (hn : o + n ≤ 65536) (hi : i < oS (cb B o n)) (ht : oT (cb B o n) i = 17) : ∀ (c j f : Nat) (σ : px_S) (q : Nat → Bool), m ≤ h.length → (∀ k, isB (gA σ 6 k)) → gA σ 6 = B → (∀ v, v < 24 → gA σ 96 v = bI (q v)) → c = oZ (cb B o n) i / 4 - j → c < f → j ≤ 65536 → ∃ g, (∀ v, v < 24 → g v = bI ((gl (cb B o n) i j c q).2 v)) ∧ f_M_isGroupRight_119 F f m (nI o) (nI i) (nI j) (mh m h σ) = some (bI (gl (cb B o n) i j c q).1, mh m h (sA σ 96 g)) := by
  have ho := w1_rk hw.1 hn
  have hs := hw.1.2.1.2
  have hZ := hw.1.2.2.2.1 i hi (by rw [ht]; decide) (by rw [ht]; decide)
  have hZ63 : oZ (cb B o n) i ≤ 65536 := by
    generalize oZ (cb B o n) i = z at *
    generalize oP (cb B o n) i = y at *
    omega
  intro c
  induction c with
  | zero =>
    intro j f σ q hm hB he hq hc hf hj
    obtain ⟨f, rfl⟩ : ∃ g, f = g + 1 := ⟨f - 1, by omega⟩
    have hb := Mmb hm hB
    rw [he] at hb
    refine ⟨gA σ 96, hq, ?_⟩
    unfold f_M_isGroupRight_119
    rw [e_o hm, bs, q_size hb hF ho hi, xb_mk, show (4 : Int64) = lN 4 from rfl, pk_lDiv (by omega) (by decide) (by decide), nI_l (by omega), if_pos ((pk_lLE (by omega) (by omega)).mpr (by omega)), f_M_isGroupRight_193]
    rw [sA_self]
    rfl
  | succ c ih =>
    intro j f σ q hm hB he hq hc hf hj
    obtain ⟨f, rfl⟩ : ∃ g, f = g + 1 := ⟨f - 1, by omega⟩
    have hb := Mmb hm hB
    rw [he] at hb
    have hv := gN_lt (cb_lt B o n) i j
    unfold f_M_isGroupRight_119
    rw [e_o hm, bs, q_size hb hF ho hi, xb_mk, show (4 : Int64) = lN 4 from rfl, pk_lDiv (by omega) (by decide) (by decide), nI_l (by omega), if_neg (fun e => by have := (pk_lLE (by omega) (by omega)).mp e; omega), e_o hm, bs, q_groupNumber hb hF ho hi (ar_g hZ (by omega)), xb_mk, e_o hm, bs, q_sections hb hF ho.1, xb_mk, nI_l (by omega), lN_i, gl_s]
    simp only [pk_lLT (show gN (cb B o n) i j < 2 ^ 63 by omega) (show 1 < 2 ^ 63 by decide), pk_lLE (show oS (cb B o n) < 2 ^ 63 by omega) (show gN (cb B o n) i j < 2 ^ 63 by omega), f_M_isGroupRight_176]
    by_cases c1 : gN (cb B o n) i j < 1
    · refine ⟨gA σ 96, ?_, ?_⟩
      · rw [if_pos (Or.inl c1)]; exact hq
      · rw [if_pos c1, if_pos (Or.inl c1), sA_self]
        rfl
    · by_cases c2 : oS (cb B o n) ≤ gN (cb B o n) i j
      · refine ⟨gA σ 96, ?_, ?_⟩
        · rw [if_pos (Or.inr (Or.inl c2))]; exact hq
        · rw [if_neg c1, if_pos c2, if_pos (Or.inr (Or.inl c2)), sA_self]
          rfl
      · have hv24 : gN (cb B o n) i j < 24 := by omega
        rw [if_neg c1, if_neg c2, Mr96 hm, bs, Ma96 hm hv24, bs, hq _ hv24]
        by_cases c3 : q (gN (cb B o n) i j) = true
        · refine ⟨gA σ 96, ?_, ?_⟩
          · rw [if_pos (Or.inr (Or.inr c3))]; exact hq
          · rw [if_pos (Or.inr (Or.inr c3)), c3, if_neg (by decide), sA_self]
            rfl
        · rw [if_neg (fun e => e.elim c1 (fun e => e.elim c2 c3)), Bool.eq_false_iff.mpr c3, if_pos (show bI false = 0 from rfl), bs, Ms96 hm hv24, bs, nI_add, z_1]
          obtain ⟨g, hg, e⟩ := ih (j + 1) f (sA σ 96 (upd (gA σ 96) (gN (cb B o n) i j) (bI true))) (fun x => if x = gN (cb B o n) i j then true else q x) hm hB he (by
            intro v hv
            rw [gA_sA, if_pos rfl]
            unfold upd
            by_cases c : v = gN (cb B o n) i j
            · rw [if_pos c, if_pos c]
            · rw [if_neg c, if_neg c]
              exact hq v hv) (by omega) (by omega) (by omega)
          refine ⟨g, hg, ?_⟩
          rw [e, sA_sA]
theorem q_isGroupRight {i : Nat} (hb : mb h m B) (hF : 24 < F) (hw : w2 (cb B o n) n) (hn : o + n ≤ 65536) (hi : i < oS (cb B o n)) (ht : oT (cb B o n) i = 17) : f_M_isGroupRight F m (nI o) (nI i) h = if gH (cb B o n) i = true then f_M_isGroupRight_119 F F m (nI o) (nI i) (nI 1) h else some (nI 0, h) := by
  obtain ⟨fs, h1⟩ := mb_o hb
  have ho := w1_rk hw.1 hn
  have hs := hw.1.2.1.1
  have hs2 := hw.1.2.1.2
  have hF8 : 8 < F := by omega
  have hM := w2_M hw
  have hy := oY_lt hs
  have hZ := hw.1.2.2.2.1 i hi (by rw [ht]; decide) (by rw [ht]; decide)
  have hZ63 : oZ (cb B o n) i ≤ 65536 := by
    generalize oZ (cb B o n) i = z at *
    generalize oP (cb B o n) i = y at *
    omega
  have hI := oI_lt (cb_lt B o n) i
  have hL := oL_lt (cb_lt B o n) i
  have k0 : (0 : Int32) = nI 0 := rfl
  have k1 : (nI 1 = nI 0) ↔ False := by decide
  simp only [f_M_isGroupRight, f_M_isGroupRight_81, f_M_isGroupRight_82, f_M_isGroupRight_114, h1, bs, xb_mk, q_size hb hF8 ho hi, q_symbols hb hF ho hs, q_linkOf hb hF8 ho hi, q_info hb hF8 ho hi, q_symbolMany hb hF ho hs (w2_z hw), lk, pk_lRem (show oZ (cb B o n) i < 2 ^ 63 by omega) (show 0 < 4 by decide) (show 4 < 2 ^ 63 by decide), k0, k1, if_true, if_false, pk_lLE (show oZ (cb B o n) i < 2 ^ 63 by omega) (show 0 < 2 ^ 63 by decide), lEQ (show oZ (cb B o n) i % 4 < 2 ^ 64 from Nat.lt_of_lt_of_le (Nat.mod_lt _ (by decide)) (by decide)) (show 0 < 2 ^ 64 by decide), nI_leI (show oY (cb B o n) < 2 ^ 31 by omega) (show 0 < 2 ^ 31 by decide), nI_l (show oY (cb B o n) < 2 ^ 31 by omega), lEQ (show oL (cb B o n) i < 2 ^ 64 by omega) (show oY (cb B o n) < 2 ^ 64 by omega), pk_lLE (show oI (cb B o n) i < 2 ^ 63 by omega) (show 0 < 2 ^ 63 by decide), nI_l (show oM (cb B o n) < 2 ^ 31 by omega), pk_lLE (show oM (cb B o n) < 2 ^ 63 by omega) (show oI (cb B o n) i < 2 ^ 63 by omega), lN_i]
  unfold gH
  by_cases d1 : oZ (cb B o n) i ≤ 0
  · rw [if_pos d1, decide_eq_false (fun q => by have := q.1; omega), if_neg (by decide)]
  · rw [if_neg d1]
    by_cases d2 : oZ (cb B o n) i % 4 = 0
    · rw [if_pos d2]
      by_cases d3 : oY (cb B o n) ≤ 0
      · rw [if_pos d3, decide_eq_false (fun q => by have := q.2.2.1; omega), if_neg (by decide)]
      · rw [if_neg d3]
        by_cases d4 : oL (cb B o n) i = oY (cb B o n)
        · rw [if_pos d4]
          by_cases d5 : oI (cb B o n) i ≤ 0
          · rw [if_pos d5, decide_eq_false (fun q => by have := q.2.2.2.2.1; omega), if_neg (by decide)]
          · rw [if_neg d5]
            by_cases d6 : oM (cb B o n) ≤ oI (cb B o n) i
            · rw [if_pos d6, decide_eq_false (fun q => by have := q.2.2.2.2.2.1; omega), if_neg (by decide)]
            · have hyI := w2_y hw (show oI (cb B o n) i < oM (cb B o n) by omega)
              have hBd := yB_lt (cb_lt B o n) (oI (cb B o n) i)
              have hg := gN_lt (cb_lt B o n) i 0
              rw [if_neg d6, q_bind hb hF ho hs hyI, xb_mk, h1, bs, q_groupNumber hb hF8 ho hi (ar_g hZ (by omega)), xb_mk]
              simp only [nI_eq (show yB (cb B o n) (oI (cb B o n) i) < 2 ^ 31 by omega) (show 0 < 2 ^ 31 by decide), pk_lLE (show gN (cb B o n) i 0 < 2 ^ 63 by omega) (show 1 < 2 ^ 63 by decide)]
              by_cases d7 : yB (cb B o n) (oI (cb B o n) i) = 0
              · rw [if_pos d7, decide_eq_false (fun q => q.2.2.2.2.2.2.1 d7), if_neg (by decide)]
              · rw [if_neg d7]
                by_cases d8 : gN (cb B o n) i 0 ≤ 1
                · rw [if_pos d8, decide_eq_true (show 1 ≤ oZ (cb B o n) i ∧ oZ (cb B o n) i % 4 = 0 ∧ oY (cb B o n) ≠ 0 ∧ oL (cb B o n) i = oY (cb B o n) ∧ 1 ≤ oI (cb B o n) i ∧ oI (cb B o n) i < oM (cb B o n) ∧ yB (cb B o n) (oI (cb B o n) i) ≠ 0 ∧ gN (cb B o n) i 0 ≤ 1 from ⟨by omega, d2, by omega, d4, by omega, by omega, d7, d8⟩), if_pos rfl]
                · rw [if_neg d8, decide_eq_false (fun q => d8 q.2.2.2.2.2.2.2), if_neg (by decide)]
        · rw [if_neg d4, decide_eq_false (fun q => d4 q.2.2.2.1), if_neg (by decide)]
    · rw [if_neg d2, decide_eq_false (fun q => d2 q.2.1), if_neg (by decide)]
theorem q_groupsError_23 (hF : 65536 < F) (hw : w2 (cb B o n) n) (hn : o + n ≤ 65536) : ∀ (c i f : Nat) (σ : px_S) (q : Nat → Bool), m ≤ h.length → (∀ k, isB (gA σ 6 k)) → gA σ 6 = B → (∀ v, v < 24 → gA σ 96 v = bI (q v)) → i + c = oS (cb B o n) → c < f → ∃ g, f_M_groupsError_23 F f m (nI o) (nI i) (mh m h σ) = some (nI (if gs (cb B o n) i c q = true then 0 else 9), mh m h (sA σ 96 g)) := by
  have ho := w1_rk hw.1 hn
  have hs2 := hw.1.2.1.2
  have hF8 : 8 < F := by omega
  intro c
  induction c with
  | zero =>
    intro i f σ q hm hB he hq hc hf
    obtain ⟨f, rfl⟩ : ∃ g, f = g + 1 := ⟨f - 1, by omega⟩
    have hb := Mmb hm hB
    rw [he] at hb
    refine ⟨gA σ 96, ?_⟩
    unfold f_M_groupsError_23
    rw [e_o hm, bs, q_sections hb hF8 ho.1, xb_mk, if_pos (nI_le (by omega) (by omega)), sA_self]
    rfl
  | succ c ih =>
    intro i f σ q hm hB he hq hc hf
    obtain ⟨f, rfl⟩ : ∃ g, f = g + 1 := ⟨f - 1, by omega⟩
    have hb := Mmb hm hB
    rw [he] at hb
    have hi : i < oS (cb B o n) := by omega
    unfold f_M_groupsError_23
    rw [e_o hm, bs, q_sections hb hF8 ho.1, xb_mk, if_neg (nI_ge (by omega) (by omega)), e_o hm, bs, q_isGroup hb hF8 ho hi, xb_mk, e_o hm, bs, gs_s]
    simp only [f_M_groupsError_53, f_M_groupsError_50, nI_add]
    by_cases c1 : oT (cb B o n) i = 17
    · rw [decide_eq_true c1, if_neg (show ¬ bI true = 0 by decide), if_pos c1, q_isGroupRight hb (by omega) hw hn hi c1]
      by_cases c2 : gH (cb B o n) i = true
      · rw [if_pos c2, if_pos c2]
        obtain ⟨g, hg, e⟩ := q_isGroupRight_119 (m := m) (h := h) (F := F) hF8 hw hn hi c1 (oZ (cb B o n) i / 4 - 1) 1 F σ q hm hB he hq rfl (by
          have hZ := hw.1.2.2.2.1 i hi (by rw [c1]; decide) (by rw [c1]; decide)
          generalize oZ (cb B o n) i = z at *
          generalize oP (cb B o n) i = y at *
          omega) (by decide)
        rw [e, xb_mk]
        by_cases c3 : (gl (cb B o n) i 1 (oZ (cb B o n) i / 4 - 1) q).1 = true
        · rw [c3, if_neg (by decide), if_pos rfl]
          obtain ⟨g2, e2⟩ := ih (i + 1) f (sA σ 96 g) (gl (cb B o n) i 1 (oZ (cb B o n) i / 4 - 1) q).2 hm hB he (fun v hv => by rw [gA_sA, if_pos rfl]; exact hg v hv) (by omega) (by omega)
          exact ⟨g2, by rw [e2, sA_sA]⟩
        · rw [Bool.eq_false_iff.mpr c3, if_pos (show bI false = 0 from rfl), if_neg (show ¬ false = true by decide)]
          exact ⟨g, rfl⟩
      · rw [if_neg c2, if_neg c2, xb_mk, if_pos (show nI 0 = 0 from rfl)]
        exact ⟨gA σ 96, by rw [sA_self]; rfl⟩
    · rw [decide_eq_false c1, if_pos (show bI false = 0 from rfl), if_neg c1]
      exact ih (i + 1) f σ q hm hB he hq (by omega) (by omega)
theorem q_groupsError_2 (hm : m ≤ h.length) : ∀ (c k f : Nat) (σ : px_S), (∀ v, v < k → gA σ 96 v = bI false) → k + c = 24 → c < f → ∃ g, (∀ v, v < 24 → g v = bI false) ∧ f_M_groupsError_2 F f m (nI o) (nI k) (mh m h σ) = f_M_groupsError_21 F m (nI o) (mh m h (sA σ 96 g)) := by
  intro c
  induction c with
  | zero =>
    intro k f σ hv hk hf
    obtain ⟨f, rfl⟩ : ∃ g, f = g + 1 := ⟨f - 1, by omega⟩
    refine ⟨gA σ 96, fun v h => hv v (by omega), ?_⟩
    unfold f_M_groupsError_2
    rw [if_pos (nI_le (by omega) (by omega)), sA_self]
  | succ c ih =>
    intro k f σ hv hk hf
    obtain ⟨f, rfl⟩ : ∃ g, f = g + 1 := ⟨f - 1, by omega⟩
    unfold f_M_groupsError_2
    rw [if_neg (nI_ge (by omega) (by omega)), Mr96 hm, bs, Ms96 hm (by omega), bs, nI_add, z_0]
    obtain ⟨g, hg, e⟩ := ih (k + 1) f (sA σ 96 (upd (gA σ 96) k (bI false))) (fun v hv2 => by
      rw [gA_sA, if_pos rfl]
      unfold upd
      by_cases c : v = k
      · rw [if_pos c]
      · rw [if_neg c]; exact hv v (by omega)) (by omega) (by omega)
    exact ⟨g, hg, by rw [e, sA_sA]⟩
theorem q_groupsError (hF : 65536 < F) (hw : w2 (cb (gA σ 6) o n) n) (hn : o + n ≤ 65536) (hm : m ≤ h.length) (hB : ∀ k, isB (gA σ 6 k)) : ∃ g, f_M_groupsError F m (nI o) (mh m h σ) = some (nI (eGrp (cb (gA σ 6) o n)), mh m h (sA σ 96 g)) := by
  unfold f_M_groupsError eGrp
  have := hw.1.2.1.1
  obtain ⟨g, hg, e⟩ := q_groupsError_2 (F := F) (o := o) (h := h) hm 24 0 F σ (fun v h => absurd h (Nat.not_lt_zero v)) rfl (by omega)
  rw [e]
  unfold f_M_groupsError_21
  obtain ⟨g2, e2⟩ := q_groupsError_23 (m := m) (h := h) (B := gA σ 6) hF hw hn (oS (cb (gA σ 6) o n) - 1) 1 F (sA σ 96 g) (fun _ => false) hm hB rfl (fun v hv => by rw [gA_sA, if_pos rfl]; exact hg v hv) (by omega) (by have := hw.1.2.1.2; omega)
  exact ⟨g2, by rw [e2, sA_sA]⟩
end GRP
/-- the error of an object -/
def eObj (b : Nat → Nat) (n : Nat) : Nat := if n < 64 ∨ oH b = false then 1 else if ¬ (1 ≤ oS b ∧ oS b ≤ 24 ∧ oR b + 64 * oS b ≤ n ∧ oT b 0 = 0) then 2 else if fst0 (eSec b n) 0 (oS b) ≠ 0 then fst0 (eSec b n) 0 (oS b) else if eSym b ≠ 0 then eSym b else if eSit b ≠ 0 then eSit b else eGrp b
theorem fst0_0 {f : Nat → Nat} : ∀ {c i : Nat}, fst0 f i c = 0 → ∀ x, i ≤ x → x < i + c → f x = 0
  | 0, _, _, x, h1, h2 => absurd h2 (by omega)
  | c + 1, i, h, x, h1, h2 => by
    rw [fst0_s] at h
    by_cases e : f i = 0
    · rw [if_pos e] at h
      by_cases ex : x = i
      · rw [ex]; exact e
      · exact fst0_0 h x (by omega) (by omega)
    · rw [if_neg e] at h
      exact absurd h e
theorem eSec_w {b : Nat → Nat} {n i : Nat} (h : eSec b n i = 0) : (oT b i ≠ 0 → oT b i ≠ 8 → oP b i + oZ b i ≤ n) ∧ (oK b i = true → oZ b i ≤ 16384) ∧ (oK b i = true → oA b i = 0 ∨ isP (oA b i) = true) := by
  unfold eSec at h
  by_cases c1 : oT b i ≠ 0 ∧ oT b i ≠ 8 ∧ ¬ oP b i + oZ b i ≤ n
  · rw [if_pos c1] at h; exact absurd h (by decide)
  · rw [if_neg c1] at h
    by_cases c2 : oK b i = true ∧ (16384 < oZ b i ∨ oA b i ≠ 0 ∧ isP (oA b i) = false)
    · rw [if_pos c2] at h; exact absurd h (by decide)
    · refine ⟨fun h1 h2 => Decidable.byContradiction (fun h3 => c1 ⟨h1, h2, h3⟩), fun hk => Nat.not_lt.mp (fun h3 => c2 ⟨hk, Or.inl h3⟩), fun hk => ?_⟩
      by_cases e : oA b i = 0
      · exact Or.inl e
      · right
        cases hq : isP (oA b i) with
        | true => rfl
        | false => exact absurd ⟨hk, Or.inr ⟨e, hq⟩⟩ c2
theorem eSym_w {b : Nat → Nat} (h : eSym b = 0) : oY b ≠ 0 → oZ b (oY b) % 24 = 0 ∧ oZ b (oY b) ≤ 1536 ∧ oX b < oS b ∧ oT b (oX b) = 3 := by
  intro c
  unfold eSym at h
  by_cases c1 : 1 < cnt (fun i => decide (oT b i = 2)) 1 (oS b - 1)
  · rw [if_pos c1] at h; exact absurd h (by decide)
  · rw [if_neg c1, if_neg c] at h
    by_cases c2 : oZ b (oY b) % 24 = 0 ∧ oZ b (oY b) ≤ 1536 ∧ oX b < oS b ∧ oT b (oX b) = 3
    · exact c2
    · rw [if_neg c2] at h; exact absurd h (by decide)
theorem eSec_3 (b : Nat → Nat) (n i : Nat) : eSec b n i ≤ 4 := by
  unfold eSec
  split
  · decide
  · split <;> decide
theorem fst0_le {f : Nat → Nat} {M : Nat} (hf : ∀ i, f i ≤ M) : ∀ {c i : Nat}, fst0 f i c ≤ M
  | 0, _ => Nat.zero_le _
  | c + 1, i => by
    rw [fst0_s]
    split
    · exact fst0_le hf
    · exact hf i
section OBJ
variable {F : Nat} {h : px_H} {m o n : Nat} {σ : px_S}
theorem q_objectError_73 (hF : 65536 < F) (hm : m ≤ h.length) (hB : ∀ k, isB (gA σ 6 k)) (ho : rk (gA σ 6) o n) (hn : n ≤ 65536) : ∀ (c i f : Nat), i + c = oS (cb (gA σ 6) o n) → c < f → f_M_objectError_73 F f m (nI o) (nI n) (nI (oS (cb (gA σ 6) o n))) (nI i) (mh m h σ) = if fst0 (eSec (cb (gA σ 6) o n) n) i c = 0 then f_M_objectError_103 F m (nI o) (mh m h σ) else some (nI (fst0 (eSec (cb (gA σ 6) o n) n) i c), mh m h σ) := by
  have hb := Mmb hm hB
  have hs2 := ho.2.2
  intro c
  induction c with
  | zero =>
    intro i f hi hf
    obtain ⟨f, rfl⟩ : ∃ g, f = g + 1 := ⟨f - 1, by omega⟩
    unfold f_M_objectError_73
    rw [if_pos (nI_le (by omega) (by omega))]
    rfl
  | succ c ih =>
    intro i f hi hf
    obtain ⟨f, rfl⟩ : ∃ g, f = g + 1 := ⟨f - 1, by omega⟩
    have h4 := eSec_3 (cb (gA σ 6) o n) n i
    unfold f_M_objectError_73
    rw [if_neg (nI_ge (by omega) (by omega)), e_o hm, bs, q_sectionError hb (by omega) ho (by omega) hn, xb_mk, fst0_s, show (0 : Int32) = nI 0 from rfl]
    by_cases c1 : eSec (cb (gA σ 6) o n) n i = 0
    · rw [if_pos c1, if_pos (nI_le (by omega) (by decide)), nI_add]
      exact ih (i + 1) f (by omega) (by omega)
    · rw [if_neg c1, if_neg (nI_ge (by omega) (by omega)), if_neg c1]
      rfl
theorem q_objectError (hF : 65536 < F) (hm : m ≤ h.length) (hB : ∀ k, isB (gA σ 6 k)) (hn : o + n ≤ 65536) : ∃ g, f_M_objectError F m (nI o) (nI n) (mh m h σ) = some (nI (eObj (cb (gA σ 6) o n) n), mh m h (sA σ 96 g)) := by
  have hb := Mmb hm hB
  have k0 : (0 : Int32) = nI 0 := rfl
  have hF8 : 8 < F := by omega
  unfold f_M_objectError eObj
  simp only [f_M_objectError_14, f_M_objectError_68]
  by_cases c1 : n < 64
  · rw [if_pos (nI_lt c1 (by decide)), if_pos (Or.inl c1)]
    exact ⟨gA σ 96, by rw [sA_self]⟩
  · have ho64 : 64 ≤ n ∧ o + n ≤ 65536 := ⟨by omega, hn⟩
    rw [if_neg (nI_nlt (by omega) (by omega)), e_o hm, bs, q_isHeader hb hF8 ho64, xb_mk]
    by_cases c2 : oH (cb (gA σ 6) o n) = true
    · have hS := oS_lt (cb_lt (gA σ 6) o n)
      have hR := oR_lt (cb_lt (gA σ 6) o n)
      rw [c2, if_neg (show ¬ bI true = 0 by decide), if_neg (show ¬ (n < 64 ∨ true = false) from fun e => e.elim c1 (by decide)), e_o hm, bs, q_sections hb hF8 ho64, xb_mk, e_o hm, bs, nI_add, q_numo hb hF8 (by decide) hn (by omega), xb_mk, show le (cb (gA σ 6) o n) 40 8 = oR (cb (gA σ 6) o n) from rfl, show (64 : Int64) = lN 64 from rfl, nI_l (show oS (cb (gA σ 6) o n) < 2 ^ 31 by omega), lN_mul, nI_l (show n < 2 ^ 31 by omega), q_lies hR (by omega) (by omega), xb_mk]
      simp only [nI_ltI (show oS (cb (gA σ 6) o n) < 2 ^ 31 by omega) (show 1 < 2 ^ 31 by decide), nI_ltI (show 24 < 2 ^ 31 by decide) (show oS (cb (gA σ 6) o n) < 2 ^ 31 by omega), k0, bI_0, decide_eq_false_iff_not]
      by_cases d1 : oS (cb (gA σ 6) o n) < 1
      · rw [if_pos d1, if_pos (fun q => by have := q.1; omega)]
        exact ⟨gA σ 96, by rw [sA_self]⟩
      · rw [if_neg d1]
        by_cases d2 : 24 < oS (cb (gA σ 6) o n)
        · rw [if_pos d2, if_pos (fun q => by have := q.2.1; omega)]
          exact ⟨gA σ 96, by rw [sA_self]⟩
        · rw [if_neg d2]
          by_cases d3 : oR (cb (gA σ 6) o n) + 64 * oS (cb (gA σ 6) o n) ≤ n
          · have ho : rk (gA σ 6) o n := ⟨ho64, d3, by omega⟩
            have hT := oT_lt (cb_lt (gA σ 6) o n) 0
            rw [if_neg (fun q => q d3), e_o hm, bs, q_type hb hF8 ho (by omega), xb_mk]
            simp only [lEQ (show oT (cb (gA σ 6) o n) 0 < 2 ^ 64 by omega) (show 0 < 2 ^ 64 by decide)]
            by_cases d4 : oT (cb (gA σ 6) o n) 0 = 0
            · rw [if_pos d4, if_neg (fun q => q ⟨by omega, by omega, d3, d4⟩), q_objectError_73 hF hm hB ho (by omega) (oS (cb (gA σ 6) o n)) 0 F (by omega) (by omega)]
              by_cases d5 : fst0 (eSec (cb (gA σ 6) o n) n) 0 (oS (cb (gA σ 6) o n)) = 0
              · have hw : w1 (cb (gA σ 6) o n) n := ⟨by omega, ⟨by omega, by omega⟩, d3, fun i hi => (eSec_w (fst0_0 d5 i (Nat.zero_le _) (by omega))).1, fun i hi => (eSec_w (fst0_0 d5 i (Nat.zero_le _) (by omega))).2.1⟩
                rw [if_pos d5, if_neg (fun q => q d5)]
                unfold f_M_objectError_103
                rw [e_o hm, bs, q_symbolsError hb (by omega) hw hn, xb_mk]
                by_cases d6 : eSym (cb (gA σ 6) o n) = 0
                · have hw2 : w2 (cb (gA σ 6) o n) n := ⟨hw, eSym_w d6⟩
                  rw [d6, if_pos (show nI 0 ≤ 0 by decide), if_neg (fun q => q rfl), e_o hm, bs, q_sitesError hb hF hw2 hn, xb_mk]
                  unfold f_M_objectError_125 f_M_objectError_142
                  by_cases d7 : eSit (cb (gA σ 6) o n) = 0
                  · obtain ⟨g, e⟩ := q_groupsError hF hw2 hn hm hB
                    rw [d7, if_pos (show nI 0 ≤ 0 by decide), if_neg (fun q => q rfl), e_o hm, bs, e, xb_mk]
                    exact ⟨g, rfl⟩
                  · have h7 : eSit (cb (gA σ 6) o n) = 7 := by
                      unfold eSit at d7 ⊢
                      by_cases e : al (fun i => !isS (cb (gA σ 6) o n) i || sSec (cb (gA σ 6) o n) i) 1 (oS (cb (gA σ 6) o n) - 1) = true
                      · rw [if_pos e] at d7; exact absurd rfl d7
                      · rw [if_neg e]
                    rw [h7, if_neg (show ¬ nI 7 ≤ 0 by decide), if_pos (show 7 ≠ 0 by decide)]
                    exact ⟨gA σ 96, by rw [sA_self]⟩
                · have h6 : eSym (cb (gA σ 6) o n) = 5 ∨ eSym (cb (gA σ 6) o n) = 6 := by
                    unfold eSym at d6 ⊢
                    split at d6
                    · left; rw [if_pos (by assumption)]
                    · rw [if_neg (by assumption)]
                      split at d6
                      · exact absurd rfl d6
                      · rw [if_neg (by assumption)]
                        split at d6
                        · rw [if_pos (by assumption)]
                          split at d6
                          · exact absurd rfl d6
                          · right; rw [if_neg (by assumption)]
                        · left; rw [if_neg (by assumption)]
                  rw [if_pos d6]
                  unfold f_M_objectError_125 f_M_objectError_142
                  rcases h6 with e | e
                  · rw [e, if_neg (show ¬ nI 5 ≤ 0 by decide), if_neg (show ¬ nI 5 ≤ 0 by decide)]
                    exact ⟨gA σ 96, by rw [sA_self]⟩
                  · rw [e, if_neg (show ¬ nI 6 ≤ 0 by decide), if_neg (show ¬ nI 6 ≤ 0 by decide)]
                    exact ⟨gA σ 96, by rw [sA_self]⟩
              · rw [if_neg d5, if_pos d5]
                exact ⟨gA σ 96, by rw [sA_self]⟩
            · rw [if_neg d4, if_pos (fun q => d4 q.2.2.2)]
              exact ⟨gA σ 96, by rw [sA_self]⟩
          · rw [if_pos d3, if_pos (fun q => d3 q.2.2.1)]
            exact ⟨gA σ 96, by rw [sA_self]⟩
    · have c3 := Bool.eq_false_iff.mpr c2
      rw [c3, if_pos (show bI false = 0 from rfl), if_pos (Or.inr rfl)]
      exact ⟨gA σ 96, by rw [sA_self]⟩
end OBJ
