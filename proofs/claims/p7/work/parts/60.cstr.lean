/-! the class's strings' sections -/
/-- a strings' section, whatever sites there are -/
def oStr0 (b : Nat → Nat) (i : Nat) : Bool := decide (oK b i = true ∧ oG b i = 1 ∧ (oF b i &&& 48) = 48 ∧ oA b i ≤ 1 ∧ 1 ≤ oZ b i ∧ b (oP b i + oZ b i - 1) = 0)
/-- a strings' section -/
def oStr (b : Nat → Nat) (i : Nat) : Bool := oStr0 b i && al (fun a => !(isS b a && decide (oI b a = i))) 0 (oS b)
theorem u2_self {α : Type} (f : Nat → Nat → α) (a k : Nat) : u2 f a k (f a k) = f := by
  funext x y
  unfold u2
  by_cases c : x = a ∧ y = k
  · rw [if_pos c, c.1, c.2]
  · rw [if_neg c]
theorem u2_u2 {α : Type} (f : Nat → Nat → α) (a k : Nat) (v w : α) : u2 (u2 f a k v) a k w = u2 f a k w := by
  funext x y
  unfold u2
  by_cases c : x = a ∧ y = k
  · rw [if_pos c, if_pos c]
  · rw [if_neg c, if_neg c, if_neg c]
theorem tI_self (τ : px_TT) (a k : Nat) : tI τ a k (fI τ a k) = τ := by
  unfold tI fI
  rw [u2_self]
theorem tI_tI (τ : px_TT) (a k : Nat) (v w : Int32) : tI (tI τ a k v) a k w = tI τ a k w := by
  unfold tI
  show (u2 (u2 τ.1 a k v) a k w, τ.2) = _
  rw [u2_u2]
theorem bt_clr {x : Int32} {t i : Nat} (ht : t < 32) (hi : i < 32) : bt (x &&& ((nI 1 <<< (nI t &&& 31)) ^^^ Int32.ofInt (-1))) i = (bt x i && !decide (i = t)) := by
  rw [b_and, b_xor, show bt (Int32.ofInt (-1)) i = true from b_m1 i hi]
  congr 1
  have e := bt_set (x := nI 0) ht hi
  rw [show bt (nI 0) i = false from b_0 i, Bool.false_or, b_or, show bt (nI 0) i = false from b_0 i, Bool.false_or] at e
  rw [e, Bool.xor_true]
section CST2
variable {F : Nat} {c : px_CT} {sk : Nat → Nat × Nat × Nat} {L q g base n : Nat} {τ : px_TT} {S : Nat → Int32}
theorem cS_14 (hs : cS sk L τ q g base n S) (x : Int32) : cS sk L (tI τ q 14 x) q g base n S := cS_fr hs (frO_I q g τ 14 x (by decide) (by decide)) (fun k hk => u2_ne (Or.inr (by omega))) rfl
theorem ar_str {P Z n : Nat} (h : P + Z ≤ n) (hz : 1 ≤ Z) : P + Z - 1 + 1 ≤ n ∧ P + Z - 1 < n := by omega
theorem k_isStringRow {i : Nat} (hs : cS sk L τ q g base n S) (hF : 8 < F) (hi : i < oS (cb S base n)) (hk : oK (cb S base n) i = true) (hg1 : oG (cb S base n) i = 1) (hA : oA (cb S base n) i ≤ 4096) : f_ObjectFile_isStringRow F c q (nI i) (cH sk L τ) = some (bI (oStr0 (cb S base n) i), cH sk L τ) := by
  have o1 := hs.1.1.1.1
  have hon := hs.1.1.2.1.1.2
  have hz := hs.2.2.1.2.2.2.2 i hi hk
  have e2 := oF_lt (cb_lt S base n) i
  have ht : oT (cb S base n) i = 1 := by
    have h1 := (of_decide_eq_true hk).1
    rcases h1 with e | e
    · exact e
    · exfalso
      unfold oG at hg1
      rw [e] at hg1
      by_cases d : ¬ (oF (cb S base n) i &&& 1024) = 0
      · rw [if_pos d, if_pos rfl] at hg1; exact absurd hg1 (by decide)
      · rw [if_neg d, if_pos rfl] at hg1; exact absurd hg1 (by decide)
  have hlie := hs.2.2.1.2.2.2.1 i hi (by rw [ht]; decide) (by rw [ht]; decide)
  have hP : oP (cb S base n) i ≤ 65536 := by
    generalize oZ (cb S base n) i = z at *
    generalize oP (cb S base n) i = y at *
    omega
  unfold f_ObjectFile_isStringRow
  rw [c_o o1, bs, k_Z hs.1.1 hF hi, xb_mk, c_o o1, bs, k_Fl hs.1.1 hF hi, xb_mk, c_o o1, bs, k_A hs.1.1 hF hi, xb_mk, c_o o1, bs, k_P hs.1.1 hF hi, xb_mk, c_o o1, bs, lN_add, lN_i, show (48 : Int64) = lN 48 from rfl, wb_and e2 (by decide)]
  simp only [lEQ (show (oF (cb S base n) i &&& 48) < 2 ^ 64 from Nat.lt_of_le_of_lt Nat.and_le_right (by decide)) (show 48 < 2 ^ 64 by decide), pk_lLT (show 1 < 2 ^ 63 by decide) (show oA (cb S base n) i < 2 ^ 63 by omega), pk_lLE (show oZ (cb S base n) i < 2 ^ 63 by omega) (show 0 < 2 ^ 63 by decide), f_ObjectFile_isStringRow_62, f_ObjectFile_isStringRow_63, xz_0, xz_1]
  unfold oStr0
  by_cases c1 : (oF (cb S base n) i &&& 48) = 48
  · by_cases c2 : 1 < oA (cb S base n) i
    · rw [if_pos c1, if_pos c2, decide_eq_false (fun e => by have := e.2.2.2.1; omega)]
    · by_cases c3 : oZ (cb S base n) i ≤ 0
      · rw [if_pos c1, if_neg c2, if_pos c3, decide_eq_false (fun e => by have := e.2.2.2.2.1; omega)]
      · have hx := ar_str hlie (show 1 ≤ oZ (cb S base n) i by omega)
        have hb := cb_lt S base n (oP (cb S base n) i + oZ (cb S base n) i - 1)
        rw [if_pos c1, if_neg c2, if_neg c3, pk_sub (by omega), k_num hs.1.1.1 hF (by decide) (by omega), nm_in hx.1, le_1, xb_mk]
        simp only [lEQ (show cb S base n (oP (cb S base n) i + oZ (cb S base n) i - 1) < 2 ^ 64 by omega) (show 0 < 2 ^ 64 by decide)]
        by_cases c4 : cb S base n (oP (cb S base n) i + oZ (cb S base n) i - 1) = 0
        · rw [if_pos c4, decide_eq_true ⟨hk, hg1, c1, by omega, by omega, c4⟩]
        · rw [if_neg c4, decide_eq_false (fun e => c4 e.2.2.2.2.2)]
  · rw [if_neg c1, decide_eq_false (fun e => c1 e.2.2.1)]
theorem gv_1 (b : Nat → Nat) (i : Nat) : (gv b i = nI 1) ↔ (oK b i = true ∧ oG b i = 1) := by
  unfold gv
  have := oG_le b i
  by_cases e : oK b i = true
  · rw [if_pos e, nI_eq (by omega) (by decide)]
    exact ⟨fun h => ⟨e, h⟩, fun h => h.2⟩
  · rw [if_neg e]
    exact ⟨fun h => absurd h (by decide), fun h => absurd h.1 e⟩
theorem k_fStr_7 (hF : 8 < F) (hA : ∀ i, i < oS (cb S base n) → oK (cb S base n) i = true → oA (cb S base n) i ≤ 4096) : ∀ (d i f : Nat) (τ : px_TT), cS sk L τ q g base n S → (∀ v, v < 32 → bt (fI τ q 14) v = (decide (v < i) && oStr0 (cb S base n) v)) → i + d = oS (cb S base n) → d < f → ∃ x', (∀ v, v < 32 → bt x' v = (decide (v < oS (cb S base n)) && oStr0 (cb S base n) v)) ∧ f_ObjectFile_findStrings_7 F c f q (nI i) (cH sk L τ) = f_ObjectFile_findStrings_51 F c q (cH sk L (tI τ q 14 x')) := by
  intro d
  induction d with
  | zero =>
    intro i f τ hs hx hi hf
    obtain ⟨f, rfl⟩ : ∃ g, f = g + 1 := ⟨f - 1, by omega⟩
    have h24 := hs.1.1.2.1.2.2
    refine ⟨fI τ q 14, by rw [show oS (cb S base n) = i by omega]; exact hx, ?_⟩
    unfold f_ObjectFile_findStrings_7
    rw [C7g8 hs.1.1.1.1, bs, hs.1.1.2.2.2.2, if_pos (nI_le (by omega) (by omega)), tI_self]
  | succ d ih =>
    intro i f τ hs hx hi hf
    obtain ⟨f, rfl⟩ : ∃ g, f = g + 1 := ⟨f - 1, by omega⟩
    have h24 := hs.1.1.2.1.2.2
    have o1 := hs.1.1.1.1
    have hiS : i < oS (cb S base n) := by omega
    unfold f_ObjectFile_findStrings_7
    rw [C7g8 o1, bs, hs.1.1.2.2.2.2, if_neg (nI_ge (by omega) (by omega)), c_o o1, bs, nI_l (by omega), k_groupOf hs.1 (by omega), xb_mk, if_pos hiS]
    simp only [gv_1, f_ObjectFile_findStrings_45, nI_add]
    have skip : oStr0 (cb S base n) i = false → ∃ x', (∀ v, v < 32 → bt x' v = (decide (v < oS (cb S base n)) && oStr0 (cb S base n) v)) ∧ f_ObjectFile_findStrings_7 F c f q (nI (i + 1)) (cH sk L τ) = f_ObjectFile_findStrings_51 F c q (cH sk L (tI τ q 14 x')) := by
      intro h0
      refine ih (i + 1) f τ hs ?_ (by omega) (by omega)
      intro v hv
      rw [hx v hv]
      by_cases e : v = i
      · rw [e, h0, Bool.and_false, Bool.and_false]
      · congr 1
        exact decide_eq_decide.mpr (by omega)
    by_cases c1 : oK (cb S base n) i = true ∧ oG (cb S base n) i = 1
    · rw [if_pos c1, c_o o1, bs, k_isStringRow hs hF hiS c1.1 c1.2 (hA i hiS c1.1), xb_mk, show (0 : Int32) = nI 0 from rfl]
      simp only [bI_0]
      by_cases c2 : oStr0 (cb S base n) i = false
      · rw [if_pos c2]
        exact skip c2
      · rw [if_neg c2, C7g14 o1, bs, C7p14 o1, bs]
        obtain ⟨x', h1, h2⟩ := ih (i + 1) f _ (cS_14 hs (fI τ q 14 ||| (nI 1 <<< (nI i &&& 31)))) (by
          intro v hv
          show bt (u2 τ.1 q 14 _ q 14) v = _
          rw [u2_eq, bt_set (by omega) hv, hx v hv]
          by_cases e : v = i
          · have c3 : oStr0 (cb S base n) i = true := by cases hq : oStr0 (cb S base n) i <;> simp_all
            rw [e, c3, decide_eq_true rfl, decide_eq_true (show i < i + 1 by omega), Bool.or_true]
            rfl
          · rw [decide_eq_false e, Bool.or_false]
            congr 1
            exact decide_eq_decide.mpr (by omega)) (by omega) (by omega)
        exact ⟨x', h1, by rw [h2, tI_tI]⟩
    · rw [if_neg c1]
      exact skip (decide_eq_false (fun e => c1 ⟨e.1, e.2.1⟩))
theorem al_e (p : Nat → Bool) : ∀ (c i : Nat), al p i (c + 1) = (al p i c && p (i + c))
  | 0, i => by show (p i && true) = (true && p (i + 0)); rw [Bool.and_true, Bool.true_and, Nat.add_zero]
  | c + 1, i => by
    rw [al_s, al_e p c (i + 1), al_s, Bool.and_assoc, show i + 1 + c = i + (c + 1) by omega]
theorem k_fStr_53 (hF : 8 < F) : ∀ (d i f : Nat) (τ : px_TT), cS sk L τ q g base n S → (∀ v, v < 32 → bt (fI τ q 14) v = (decide (v < oS (cb S base n)) && oStr0 (cb S base n) v && al (fun a => !(isS (cb S base n) a && decide (oI (cb S base n) a = v))) 0 i)) → i + d = oS (cb S base n) → d < f → ∃ x', (∀ v, v < 32 → bt x' v = (decide (v < oS (cb S base n)) && oStr0 (cb S base n) v && al (fun a => !(isS (cb S base n) a && decide (oI (cb S base n) a = v))) 0 (oS (cb S base n)))) ∧ f_ObjectFile_findStrings_53 F c f q (nI i) (cH sk L τ) = some ((), cH sk L (tI τ q 14 x')) := by
  intro d
  induction d with
  | zero =>
    intro i f τ hs hx hi hf
    obtain ⟨f, rfl⟩ : ∃ g, f = g + 1 := ⟨f - 1, by omega⟩
    have h24 := hs.1.1.2.1.2.2
    refine ⟨fI τ q 14, by rw [show oS (cb S base n) = i by omega] at hx ⊢; exact hx, ?_⟩
    unfold f_ObjectFile_findStrings_53
    rw [C7g8 hs.1.1.1.1, bs, hs.1.1.2.2.2.2, if_pos (nI_le (by omega) (by omega)), tI_self]
    rfl
  | succ d ih =>
    intro i f τ hs hx hi hf
    obtain ⟨f, rfl⟩ : ∃ g, f = g + 1 := ⟨f - 1, by omega⟩
    have h24 := hs.1.1.2.1.2.2
    have o1 := hs.1.1.1.1
    have hiS : i < oS (cb S base n) := by omega
    unfold f_ObjectFile_findStrings_53
    rw [C7g8 o1, bs, hs.1.1.2.2.2.2, if_neg (nI_ge (by omega) (by omega)), c_o o1, bs, k_targetOf hs.1 hF hiS, xb_mk]
    simp only [f_ObjectFile_findStrings_85, nI_add]
    by_cases c1 : isS (cb S base n) i = true
    · have hI : oI (cb S base n) i < 24 := Nat.lt_of_lt_of_le (isS_T c1).2.1 h24
      rw [if_pos c1, if_neg (nI_pos (by omega)), C7g14 o1, bs, C7p14 o1, bs]
      obtain ⟨x', h1, h2⟩ := ih (i + 1) f _ (cS_14 hs (fI τ q 14 &&& ((nI 1 <<< (nI (oI (cb S base n) i) &&& 31)) ^^^ Int32.ofInt (-1)))) (by
        intro v hv
        show bt (u2 τ.1 q 14 _ q 14) v = _
        rw [u2_eq, bt_clr (by omega) hv, hx v hv, al_e, Nat.zero_add, c1, Bool.true_and, ← Bool.and_assoc]
        congr 2
        exact decide_eq_decide.mpr ⟨fun e => e.symm, fun e => e.symm⟩) (by omega) (by omega)
      exact ⟨x', h1, by rw [h2, tI_tI]⟩
    · rw [if_neg c1, if_pos (show Int32.ofInt (-1) < 0 by decide)]
      refine ih (i + 1) f τ hs ?_ (by omega) (by omega)
      intro v hv
      rw [hx v hv, al_e, Nat.zero_add, Bool.eq_false_iff.mpr c1, Bool.false_and, Bool.not_false, Bool.and_true]
theorem k_findStrings (hs : cS sk L τ q g base n S) (hF : 24 < F) (hA : ∀ i, i < oS (cb S base n) → oK (cb S base n) i = true → oA (cb S base n) i ≤ 4096) : ∃ x', (∀ v, v < 32 → bt x' v = (decide (v < oS (cb S base n)) && oStr (cb S base n) v)) ∧ f_ObjectFile_findStrings F c q (cH sk L τ) = some ((), cH sk L (tI τ q 14 x')) := by
  have h24 := hs.1.1.2.1.2.2
  have o1 := hs.1.1.1.1
  unfold f_ObjectFile_findStrings
  rw [C7p14 o1, bs]
  obtain ⟨x1, h1, h2⟩ := k_fStr_7 (c := c) (show 8 < F by omega) hA (oS (cb S base n)) 0 F _ (cS_14 hs (nI 0)) (by
    intro v hv
    show bt (u2 τ.1 q 14 (nI 0) q 14) v = _
    rw [u2_eq, show bt (nI 0) v = false from b_0 v, decide_eq_false (Nat.not_lt_zero v), Bool.false_and]) (by omega) (by omega)
  rw [h2, tI_tI]
  unfold f_ObjectFile_findStrings_51
  obtain ⟨x2, h3, h4⟩ := k_fStr_53 (c := c) (show 8 < F by omega) (oS (cb S base n)) 0 F _ (cS_14 hs x1) (by
    intro v hv
    show bt (u2 τ.1 q 14 x1 q 14) v = _
    rw [u2_eq, h1 v hv]
    show _ = (_ && true)
    rw [Bool.and_true]) (by omega) (by omega)
  refine ⟨x2, ?_, by rw [h4, tI_tI]⟩
  intro v hv
  rw [h3 v hv, Bool.and_assoc]
  rfl
end CST2
