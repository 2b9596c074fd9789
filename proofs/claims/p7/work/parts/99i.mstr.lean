/-! isStrings of the reference -/
/-- sites are for section i -/
def sFor (b : Nat → Nat) (i a : Nat) : Bool := decide (oT b a = 4 ∧ oI b a = i)
/-- a strings' section -/
def oStw (b : Nat → Nat) (i : Nat) : Bool := decide (oK b i = true ∧ oG b i = 1 ∧ oF b i &&& 48 = 48 ∧ oA b i < 2 ∧ 0 < oZ b i ∧ b (oP b i + oZ b i - 1) = 0) && !ex1 (sFor b i) 1 (oS b - 1)
theorem oStw_k {b : Nat → Nat} {i : Nat} (h : oStw b i = true) : oK b i = true ∧ oG b i = 1 ∧ 0 < oZ b i ∧ b (oP b i + oZ b i - 1) = 0 := by
  unfold oStw at h
  rw [Bool.and_eq_true] at h
  have := of_decide_eq_true h.1
  exact ⟨this.1, this.2.1, this.2.2.2.2.1, this.2.2.2.2.2⟩
theorem oK_in {b : Nat → Nat} {n i : Nat} (hw : w1 b n) (hi : i < oS b) (hk : oK b i = true) (hg : oG b i = 1) : oP b i + oZ b i ≤ n ∧ oZ b i ≤ 16384 := by
  have h8 : oT b i ≠ 8 := fun e => by
    unfold oG at hg
    rw [if_pos e] at hg
    split at hg
    · cases hg
    · cases hg
  have h0 : oT b i ≠ 0 := fun e => by
    unfold oK at hk
    have := of_decide_eq_true hk
    omega
  exact ⟨hw.2.2.2.1 i hi h0 h8, hw.2.2.2.2 i hi hk⟩
section MIS
variable {F m t o n i : Nat} {h : px_H} {σ : px_S} {b : Nat → Nat}
theorem q_iS_113 (hm : m ≤ h.length) (hF : 24 < F) (hb : OB σ t o n b) (hi : i < oS b) : ∀ (c a g : Nat), 1 ≤ a → a + c = oS b → c < g → f_M_isStrings_113 F g m (nI o) (nI i) (nI a) (mh m h σ) = some (bI (!ex1 (sFor b i) a c), mh m h σ) := by
  have hS := (OB_w hb).1.2.1.2
  intro c
  induction c with
  | zero =>
    intro a g h1 ha hg
    obtain ⟨g, rfl⟩ : ∃ x, g = x + 1 := ⟨g - 1, by omega⟩
    unfold f_M_isStrings_113 f_M_isStrings_158
    rw [e_o hm, bs, O_sec hm hF hb, xb_mk, if_pos (nI_le (by omega) (by omega))]
    rfl
  | succ c ih =>
    intro a g h1 ha hg
    obtain ⟨g, rfl⟩ : ∃ x, g = x + 1 := ⟨g - 1, by omega⟩
    have haS : a < oS b := by omega
    have eT : oT b a < 2 ^ 32 := le_lt (OB_lt hb) _ 4
    have eI : oI b a < 2 ^ 32 := le_lt (OB_lt hb) _ 4
    have ih := ih (a + 1) g (by omega) (by omega) (by omega)
    unfold f_M_isStrings_113 f_M_isStrings_152 f_M_isStrings_150
    rw [e_o hm, bs, O_sec hm hF hb, xb_mk, if_neg (nI_ge (by omega) (by omega)), e_o hm, bs, O_type hm hF hb haS, xb_mk, nI_add, ex1_s]
    by_cases c1 : oT b a = 4
    · rw [if_pos (show lN (oT b a) = (4 : Int64) by rw [c1]; rfl), e_o hm, bs, O_info hm hF hb haS, xb_mk, nI_l (by omega)]
      by_cases c2 : oI b a = i
      · rw [if_pos (by rw [c2]), show sFor b i a = true from decide_eq_true ⟨c1, c2⟩]; rfl
      · rw [if_neg (fun q => c2 ((lEQ (by omega) (by omega)).mp q)), show sFor b i a = false from decide_eq_false (fun q => c2 q.2), Bool.false_or, ih]
    · rw [if_neg (show ¬ lN (oT b a) = (4 : Int64) from fun q => c1 ((lEQ (b := 4) (by omega) (by decide)).mp q)), show sFor b i a = false from decide_eq_false (fun q => c1 q.1), Bool.false_or, ih]
theorem eObj_T0 {b : Nat → Nat} {n : Nat} (h : eObj b n = 0) : oT b 0 = 0 := by
  unfold eObj at h
  split at h
  · cases h
  · split at h
    · cases h
    · rename_i c
      by_cases e : 1 ≤ oS b ∧ oS b ≤ 24 ∧ oR b + 64 * oS b ≤ n ∧ oT b 0 = 0
      · exact e.2.2.2
      · exact absurd e c
theorem oStw_eq {b : Nat → Nat} {n i : Nat} (h : eObj b n = 0) (hi : i < oS b) : oStw b i = oStr b i := by
  have e1 : decide (oK b i = true ∧ oG b i = 1 ∧ oF b i &&& 48 = 48 ∧ oA b i < 2 ∧ 0 < oZ b i ∧ b (oP b i + oZ b i - 1) = 0) = oStr0 b i := by
    unfold oStr0
    refine decide_eq_decide.mpr ⟨fun q => ⟨q.1, q.2.1, q.2.2.1, by have := q.2.2.2.1; omega, q.2.2.2.2.1, q.2.2.2.2.2⟩, fun q => ⟨q.1, q.2.1, q.2.2.1, by have := q.2.2.2.1; omega, q.2.2.2.2.1, q.2.2.2.2.2⟩⟩
  unfold oStw oStr
  rw [e1]
  cases e0 : oStr0 b i with
  | false => rfl
  | true =>
    rw [Bool.true_and, Bool.true_and]
    have hk : oK b i = true := by
      unfold oStr0 at e0
      exact (of_decide_eq_true e0).1
    have h0 := eObj_T0 h
    have key : ex1 (sFor b i) 1 (oS b - 1) = false ↔ al (fun a => !(isS b a && decide (oI b a = i))) 0 (oS b) = true := by
      rw [Bool.eq_false_iff, al_iffw, ne_eq, ex1_iff]
      constructor
      · intro hh a _ ha
        by_cases c : isS b a = true ∧ oI b a = i
        · exfalso
          apply hh
          have c1 := c.1
          unfold isS at c1
          have c1 := of_decide_eq_true c1
          refine ⟨a, ?_, by omega, decide_eq_true ⟨c1.1, c.2⟩⟩
          by_cases ca : a = 0
          · rw [ca, h0] at c1; exact absurd c1.1 (by decide)
          · omega
        · by_cases c3 : isS b a = true
          · rw [c3, decide_eq_false (fun q => c ⟨c3, q⟩)]; rfl
          · rw [Bool.eq_false_iff.mpr c3]; rfl
      · rintro hh ⟨a, a1, a2, a3⟩
        have a3 := of_decide_eq_true a3
        have := hh a (Nat.zero_le _) (by omega)
        have hs : isS b a = true := decide_eq_true ⟨a3.1, by rw [a3.2]; exact hi, by rw [a3.2]; exact hk⟩
        rw [hs, decide_eq_true a3.2] at this
        cases this
    cases e2 : ex1 (sFor b i) 1 (oS b - 1) with
    | false => rw [key.mp e2]; rfl
    | true =>
      cases e3 : al (fun a => !(isS b a && decide (oI b a = i))) 0 (oS b) with
      | false => rfl
      | true => rw [key.mpr e3] at e2; cases e2
theorem q_isStringw (hm : m ≤ h.length) (hF : 24 < F) (hb : OB σ t o n b) (hi : i < oS b) : f_M_isStrings F m (nI o) (nI i) (mh m h σ) = some (bI (oStw b i), mh m h σ) := by
  have hw := OB_w hb
  have hS := hw.1.2.1.2
  have eF : oF b i < 2 ^ 64 := le_lt (OB_lt hb) _ 8
  have eA : oA b i < 2 ^ 64 := le_lt (OB_lt hb) _ 8
  have eZ : oZ b i < 2 ^ 64 := le_lt (OB_lt hb) _ 8
  have eG : oG b i ≤ 5 := by unfold oG; repeat (first | omega | split)
  have hn := hb.2.2.1
  have no : ¬ (oK b i = true ∧ oG b i = 1 ∧ oF b i &&& 48 = 48 ∧ oA b i < 2 ∧ 0 < oZ b i ∧ b (oP b i + oZ b i - 1) = 0) → (some (nI 0, mh m h σ) : Option (Int32 × px_H)) = some (bI (oStw b i), mh m h σ) := fun c => by unfold oStw; rw [decide_eq_false c]; rfl
  have e76 : f_M_isStrings_76 F m (nI o) (nI i) (nI 0) (mh m h σ) = some (nI 0, mh m h σ) := by
    unfold f_M_isStrings_76 f_M_isStrings_108
    rw [if_pos (show nI 0 = 0 from rfl)]
  unfold f_M_isStrings f_M_isStrings_75
  rw [e_o hm, bs, O_kept hm hF hb hi, xb_mk, e76]
  cases ek : oK b i with
  | false => rw [if_pos (show bI false = 0 from rfl)]; exact no (fun q => by rw [ek] at q; exact nomatch q.1)
  | true =>
    rw [if_neg (show ¬ bI true = 0 by decide), e_o hm, bs, O_group hm hF hb hi, xb_mk]
    by_cases c1 : oG b i = 1
    · rw [if_pos (by rw [c1]), e_o hm, bs, O_flags hm hF hb hi, xb_mk, show (48 : Int64) = lN 48 from rfl, wb_and eF (show 48 < 2 ^ 64 by decide)]
      by_cases c2 : oF b i &&& 48 = 48
      · rw [if_pos (by rw [c2]), e_o hm, bs, O_align hm hF hb hi, xb_mk]
        have hPZ := oK_in hw.1 hi ek c1
        by_cases c3 : oA b i < 2
        · rw [if_neg (show ¬ (2 : Int64) ≤ lN (oA b i) from fun q => by have := (pk_lLE (a := 2) (b := oA b i) (by decide) (by omega)).mp q; omega), e_o hm, bs, O_align hm hF hb hi, xb_mk, if_neg (show ¬ lN (oA b i) < lN 0 from fun q => by have := (pk_lLT (a := oA b i) (b := 0) (by omega) (by decide)).mp q; omega), e_o hm, bs, O_size hm hF hb hi, xb_mk]
          by_cases c4 : 0 < oZ b i
          · rw [if_neg (show ¬ lN (oZ b i) ≤ lN 0 from fun q => by have := (pk_lLE (a := oZ b i) (b := 0) (by omega) (by decide)).mp q; omega)]
            unfold f_M_isStrings_76 f_M_isStrings_108
            have hx : oP b i + oZ b i - 1 < n := by omega
            rw [if_neg (show ¬ nI 1 = 0 by decide), Mr6 hm, bs, e_o hm, bs, O_beg hm hF hb hi, xb_mk, e_o hm, bs, O_size hm hF hb hi, xb_mk, lN_i, lN_i, nI_add, nI_add, pk_sub (by omega), show o + oP b i + oZ b i - 1 = o + (oP b i + oZ b i - 1) by omega, O_byte hm hb hx, bs]
            by_cases c5 : b (oP b i + oZ b i - 1) = 0
            · rw [if_pos ((O_b0 hb hx).mpr c5), q_iS_113 hm hF hb hi (oS b - 1) 1 F (by omega) (by omega) (by omega)]
              unfold oStw
              rw [decide_eq_true ⟨ek, c1, c2, c3, c4, c5⟩, Bool.true_and]
            · rw [if_neg (fun q => c5 ((O_b0 hb hx).mp q))]
              exact no (fun q => c5 q.2.2.2.2.2)
          · rw [if_pos (show lN (oZ b i) ≤ lN 0 by rw [show oZ b i = 0 by omega]; decide)]
            exact no (fun q => c4 q.2.2.2.2.1)
        · have nn := no (fun q => c3 q.2.2.2.1)
          by_cases c6 : (2 : Int64) ≤ lN (oA b i)
          · rw [if_pos c6]; exact nn
          · rw [if_neg c6, e_o hm, bs, O_align hm hF hb hi, xb_mk, if_pos (show lN (oA b i) < lN 0 by
              have hA : ¬ oA b i < 2 ^ 63 := fun q => c6 ((pk_lLE (a := 2) (b := oA b i) (by decide) q).mpr (by omega))
              rw [Int64.lt_iff_toInt_lt, lN_ti eA, lN_ti (show 0 < 2 ^ 64 by decide), if_neg hA, if_pos (by decide)]
              omega)]
            exact nn
      · rw [if_neg (fun q => c2 ((lEQ (Nat.lt_of_le_of_lt Nat.and_le_right (by decide)) (by decide)).mp q))]
        exact no (fun q => c2 q.2.2.1)
    · rw [if_neg (fun q => c1 ((nI_eq (by omega) (by decide)).mp q))]
      exact no (fun q => c1 q.2.1)
theorem q_isStrings (hm : m ≤ h.length) (hF : 24 < F) (hb : OB σ t o n b) (hi : i < oS b) : f_M_isStrings F m (nI o) (nI i) (mh m h σ) = some (bI (oStr b i), mh m h σ) := by
  rw [q_isStringw hm hF hb hi, oStw_eq hb.2.2.2.1 hi]
end MIS
