/-! helps of the reference -/
/-- the name that symbol k would define, if it is wanted -/
def hp1 (b : Nat → Nat) (xs : px_NL) (k : Nat) : Option Nat := if yB b k = 0 ∨ yW b k = 0 then none else match idx (yT b k) 0 (xs.map Prod.fst) with
  | none => none
  | some i => match xs[i]? with
    | none => none
    | some x => if x.2.2.1 = true ∧ x.2.1 = 0 then some i else none
/-- the first of c of them -/
def hpf (g : Nat → Option Nat) : Nat → Nat → Option Nat
  | _, 0 => none
  | k, c + 1 => match g k with
    | some i => some i
    | none => hpf g (k + 1) c
section MHP
variable {F m o n q : Nat} {h : px_H} {b : Nat → Nat} {σ : px_S} {xs : px_NL}
theorem q_helps_9 (hm : m ≤ h.length) (hF : 65536 < F) (hw : w2 b n) (hn : o + n ≤ 65536) (hy : ∀ k, 1 ≤ k → k < oM b → yOK b k = true) (hB : ∀ k, isB (gA σ 6 k)) (hcb : cb (gA σ 6) o n = b) (hr : RL σ xs) (hok : okL xs) : ∀ (c k f : Nat), 1 ≤ k → c = oM b - k → k < 2 ^ 30 → c < f → f_M_helps_9 F f m (nI o) (nI k) (mh m h σ) = some (tdA (hpf (hp1 b xs) k c), mh m h σ) := by
  have hM := w2_M hw
  have hrk : rk (gA σ 6) o n := w1_rk (by rw [hcb]; exact hw.1) hn
  have hsm := q_symbolMany (F := F) (h := mh m h σ) (m := m) (Mmb hm hB) (by omega) hrk (by rw [hcb]; exact hw.1.2.1.1) (by rw [hcb]; exact w2_z hw)
  rw [hcb] at hsm
  have hwc : w2 (cb (gA σ 6) o n) n := by rw [hcb]; exact hw
  have hxl : xs.length ≤ 4096 := by have := hr.1.2.1; rw [List.length_map] at this; exact this
  intro c
  induction c with
  | zero =>
    intro k f h1 hc hk hf
    obtain ⟨f, rfl⟩ : ∃ x, f = x + 1 := ⟨f - 1, by omega⟩
    unfold f_M_helps_9 f_M_helps_81
    rw [e_o hm, bs, hsm, xb_mk, if_pos (nI_le (by omega) (by omega))]
    rfl
  | succ c ih =>
    intro k f h1 hc hk hf
    obtain ⟨f, rfl⟩ : ∃ x, f = x + 1 := ⟨f - 1, by omega⟩
    have hkM : k < oM b := by omega
    have hyk := hy k h1 hkM
    have hbn := q_bind (F := F) (h := mh m h σ) (m := m) (k := k) (Mmb hm hB) (by omega) hrk (by rw [hcb]; exact hw.1.2.1.1) (by rw [hcb]; exact w2_y hw hkM)
    have hwh := q_where (F := F) (h := mh m h σ) (m := m) (k := k) (Mmb hm hB) (by omega) hrk (by rw [hcb]; exact hw.1.2.1.1) (by rw [hcb]; exact w2_y hw hkM)
    rw [hcb] at hbn hwh
    have hB15 : yB b k < 16 := by
      have := yB_lt (cb_lt (gA σ 6) o n) k
      rw [hcb] at this
      exact this
    have hW := yW_2 (B := gA σ 6) (o := o) (n := n) (k := k)
    rw [hcb] at hW
    have nx : hp1 b xs k = none → f_M_helps_9 F f m (nI o) (nI (k + 1)) (mh m h σ) = some (tdA (hpf (hp1 b xs) k (c + 1)), mh m h σ) := by
      intro e
      rw [ih (k + 1) f (by omega) (by omega) (by omega) (by omega)]
      unfold hpf
      rw [e]
      cases c <;> rfl
    unfold f_M_helps_9 f_M_helps_75 f_M_helps_72
    rw [e_o hm, bs, hsm, xb_mk, if_neg (nI_ge (by omega) (by omega)), e_o hm, bs, hbn, xb_mk, nI_add]
    by_cases c1 : yB b k = 0
    · rw [if_pos (by rw [c1]; rfl)]
      exact nx (by unfold hp1; rw [if_pos (Or.inl c1)])
    · rw [if_neg (show ¬ nI (yB b k) = 0 from fun q => c1 ((nI_eq (b := 0) (by omega) (by decide)).mp q)), e_o hm, bs, hwh, xb_mk]
      by_cases c2 : yW b k = 0
      · rw [if_pos (by rw [c2]; rfl)]
        exact nx (by unfold hp1; rw [if_pos (Or.inr c2)])
      · obtain ⟨y1, y2, y3⟩ := yOK_n hyk c1
        have hno := q_nameOf (F := F) (o := o) (n := n) (k := k) hm (by omega) hB hwc hn (by rw [hcb]; exact hkM) (by rw [hcb]; exact y2) hr
        rw [hcb] at hno
        rw [if_neg (show ¬ nI (yW b k) = 0 from fun q => c2 ((nI_eq (b := 0) (by omega) (by decide)).mp q)), e_o hm, bs, hno, xb_mk]
        have e0 : hp1 b xs k = match idx (yT b k) 0 (xs.map Prod.fst) with
            | none => none
            | some i => match xs[i]? with
              | none => none
              | some x => if x.2.2.1 = true ∧ x.2.1 = 0 then some i else none := by
          unfold hp1
          rw [if_neg (fun q => q.elim c1 c2)]
        have hs1 : ∀ i, hp1 b xs k = some i → hpf (hp1 b xs) k (c + 1) = some i := by
          intro i e
          unfold hpf
          rw [e]
        generalize hp1 b xs = G at *
        cases ei : idx (yT b k) 0 (xs.map Prod.fst) with
        | none =>
          rw [ei] at e0
          rw [if_pos (show tdA none < 0 from m1_neg)]
          exact nx e0
        | some i =>
          have hi := idx_lt ei
          rw [List.length_map] at hi
          rw [ei] at e0
          obtain ⟨x, hx⟩ : ∃ x, xs[i]? = some x := ⟨xs[i]'(by omega), List.getElem?_eq_getElem (by omega)⟩
          have e1 : G k = if x.2.2.1 = true ∧ x.2.1 = 0 then some i else none := by
            rw [e0]
            show (match xs[i]? with | none => none | some x => if x.2.2.1 = true ∧ x.2.1 = 0 then some i else none) = _
            rw [hx]
          have rr := hr.2 i x hx
          have hx4 := (hok i x hx).1
          rw [if_neg (show ¬ tdA (some i) < 0 from nI_pos (by omega)), show tdA (some i) = nI i from rfl, Mr28 hm, bs, Ma28 hm (by omega), bs, rr.2.1, Mr23 hm, bs, Ma23 hm (by omega), bs, rr.1]
          cases ew : x.2.2.1 with
          | false =>
            rw [if_pos (show bI false = 0 from rfl)]
            exact nx (by rw [e1, ew, if_neg (fun q => nomatch q.1)])
          | true =>
            rw [if_neg (show ¬ bI true = 0 by decide)]
            by_cases c3 : x.2.1 = 0
            · rw [if_pos (by rw [c3]; rfl), hs1 i (by rw [e1, if_pos ⟨ew, c3⟩])]
              rfl
            · rw [if_neg (show ¬ nI x.2.1 = 0 from fun q => c3 ((nI_eq (b := 0) (by omega) (by decide)).mp q))]
              exact nx (by rw [e1, if_neg (fun q => c3 q.2)])
theorem q_helps (hm : m ≤ h.length) (hF : 65536 < F) (he : eObj b n = 0) (hn : o + n ≤ 65536) (hB : ∀ k, isB (gA σ 6 k)) (hcb : cb (gA σ 6) o n = b) (hq : q < 64) (h9 : gA σ 9 q = nI o) (hr : RL σ xs) (hok : okL xs) : f_M_helps F m (nI q) (mh m h σ) = some (tdA (hpf (hp1 b xs) 1 (oM b - 1)), mh m h σ) := by
  obtain ⟨hw, hy, hg⟩ := eObj_0 he
  have hM64 := w2_M hw
  unfold f_M_helps
  rw [Mr9 hm, bs, Ma9 hm hq, bs, h9, q_helps_9 hm hF hw hn hy hB hcb hr hok (oM b - 1) 1 F (by omega) rfl (by decide) (by omega)]
end MHP
