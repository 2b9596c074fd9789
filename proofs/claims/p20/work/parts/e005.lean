section
/-! take of the reference -/
/-- what take leaves as it was -/
def frY (σ σ' : px_S) : Prop := (∀ k, k ≠ 4 → k ≠ 13 → k ≠ 14 → k ≠ 20 → k ≠ 48 → k ≠ 69 → k ≠ 70 → gI σ' k = gI σ k) ∧ (∀ k, gJ σ' k = gJ σ k) ∧ (∀ k, (k < 21 ∨ 28 < k) → k ≠ 3 → k ≠ 17 → k ≠ 18 → k ≠ 49 → k ≠ 65 → k ≠ 71 → k ≠ 72 → k ≠ 73 → gA σ' k = gA σ k) ∧ (∀ k, k ≠ 30 → gB σ' k = gB σ k)
section MTT
variable {F m o n q T dm an : Nat} {h : px_H} {dr : Nat → Bool} {b : Nat → Nat} {σ0 σ : px_S} {sg : List (List Nat)} {xs : px_NL} {od : List Nat} {bl : Option (List Nat)}
theorem q_take (hm : m ≤ h.length) (hF : 65536 < F) (he : eObj b n = 0) (hn : o + n ≤ 65536) (hB : ∀ k, isB (gA σ 6 k)) (h3 : ∀ k, isB (gA σ 3 k)) (hcb : cb (gA σ 6) o n = b) (hT : T < 64) (h14 : gI σ 14 = nI T) (hq : q < 64) (h9 : gA σ 9 q = nI o) (hd : RDr σ dr) (h69 : gI σ 69 = nI dm) (hsg : RSg σ sg) (hsl : sg.length + 24 ≤ 1536) (h13 : gI σ 13 = nI an) (han : an ≤ 2) (hr : RL σ xs) (hok : okL xs) (hl : xs.length + 64 ≤ 4096) (ho : RO σ od) (hol : od.length + 64 ≤ 4096) (hou : OU σ0 σ bl) (D : (Nat → Bool) × Nat × List (List Nat)) (hD : D = itr (dg1 T b) 1 (oS b - 1) (dr, dm, sg)) (S : px_TS) (hS : S = itr (tk1 D.1 T b) 1 (oM b - 1) (an, xs, od, bl)) : ∃ σ', f_M_take F m (nI q) (mh m h σ) = some ((), mh m h σ') ∧ gI σ' 14 = nI (T + 1) ∧ gA σ' 17 = upd (gA σ 17) T (nI q) ∧ gA σ' 18 = upd (gA σ 18) q (nI 1) ∧ RDr σ' D.1 ∧ gI σ' 69 = nI D.2.1 ∧ RSg σ' D.2.2 ∧ gI σ' 13 = nI S.1 ∧ RL σ' S.2.1 ∧ okL S.2.1 ∧ RO σ' S.2.2.1 ∧ OU σ0 σ' S.2.2.2 ∧ frY σ σ' := by
  obtain ⟨hw, hy, hg⟩ := eObj_0 he
  have hS1 := hw.1.2.1.1
  have hS24 := hw.1.2.1.2
  have hM64 := w2_M hw
  obtain ⟨σ1, hσ1⟩ : ∃ x, x = sI (sA (sA σ 17 (upd (gA σ 17) T (nI q))) 18 (upd (gA σ 18) q (nI 1))) 14 (nI (T + 1)) := ⟨_, rfl⟩
  have gIo : ∀ k, k ≠ 14 → gI σ1 k = gI σ k := fun k hk => by rw [hσ1, gI_sI, if_neg hk, gI_sA, gI_sA]
  have gAo : ∀ k, k ≠ 17 → k ≠ 18 → gA σ1 k = gA σ k := fun k a c => by rw [hσ1, gA_sI, gA_sA, if_neg c, gA_sA, if_neg a]
  have gBo : ∀ k, gB σ1 k = gB σ k := fun k => by rw [hσ1]; rfl
  have g14 : gI σ1 14 = nI (T + 1) := by rw [hσ1, gI_sI, if_pos rfl]
  have g17 : gA σ1 17 = upd (gA σ 17) T (nI q) := by rw [hσ1]; rfl
  have g18 : gA σ1 18 = upd (gA σ 18) q (nI 1) := by rw [hσ1]; rfl
  have ht1 : RTa σ1 T o := ⟨hT, q, hq, by rw [g17, upd_eq], by rw [gAo 9 (by decide) (by decide)]; exact h9⟩
  have g6 : gA σ1 6 = gA σ 6 := gAo 6 (by decide) (by decide)
  obtain ⟨σ2, d1, d2, d3, d4, d5⟩ := q_dG_8 (F := F) (o := o) (t := T) hm hF hT hw hn hg (oS b - 1) 1 F σ1 (dr, dm, sg) (by rw [g6]; exact hB) (by rw [g6]; exact hcb) (by omega) (by omega) (by omega) (by intro i hi; rw [gAo 65 (by decide) (by decide)]; exact hd i hi) ((gIo 69 (by decide)).trans h69) (RSg_eq hsg (gIo 70 (by decide)) (gAo 71 (by decide) (by decide)) (gAo 72 (by decide) (by decide)) g6) (by show sg.length + _ ≤ _; omega)
  rw [← hD] at d2 d3 d4
  have a6 : gA σ2 6 = gA σ 6 := (d5.2.2.1 6 (by decide) (by decide) (by decide)).trans g6
  have a3 : gA σ2 3 = gA σ 3 := (d5.2.2.1 3 (by decide) (by decide) (by decide)).trans (gAo 3 (by decide) (by decide))
  have a9 : gA σ2 9 = gA σ 9 := (d5.2.2.1 9 (by decide) (by decide) (by decide)).trans (gAo 9 (by decide) (by decide))
  have a17 : gA σ2 17 = upd (gA σ 17) T (nI q) := (d5.2.2.1 17 (by decide) (by decide) (by decide)).trans g17
  have aA : ∀ k, k ≠ 17 → k ≠ 18 → k ≠ 65 → k ≠ 71 → k ≠ 72 → gA σ2 k = gA σ k := fun k a b c d e => (d5.2.2.1 k c d e).trans (gAo k a b)
  have aI : ∀ k, k ≠ 14 → k ≠ 69 → k ≠ 70 → gI σ2 k = gI σ k := fun k a b c => (d5.1 k b c).trans (gIo k a)
  have aB : ∀ k, gB σ2 k = gB σ k := fun k => (d5.2.2.2 k).trans (gBo k)
  have hr2 : RL σ2 xs := ⟨RNm_eq hr.1 (aI 20 (by decide) (by decide) (by decide)) (aA 21 (by decide) (by decide) (by decide) (by decide) (by decide)) (aA 22 (by decide) (by decide) (by decide) (by decide) (by decide)), fun i x hx => rrec_eq (hr.2 i x hx) (fun k hk => by rw [aA k (by omega) (by omega) (by omega) (by omega) (by omega)]) (by rw [aB])⟩
  have ho2 : RO σ2 od := ⟨(aI 48 (by decide) (by decide) (by decide)).trans ho.1, ho.2.1, fun i d hi => by rw [aA 49 (by decide) (by decide) (by decide) (by decide) (by decide)]; exact ho.2.2 i d hi⟩
  have hou2 : OU σ0 σ2 bl := by
    have e4 := aI 4 (by decide) (by decide) (by decide)
    unfold OU ROu at hou ⊢
    rw [e4, a3]; exact hou
  obtain ⟨σ3, k1, k2, k3, k4, k5, k6, k7⟩ := q_take_44 (F := F) (o := o) (t := T) (dr := D.1) (σ0 := σ0) hm hF hw hn hy (oM b - 1) 1 F σ2 (an, xs, od, bl) (by rw [a6]; exact hB) (by rw [a3]; exact h3) (by rw [a6]; exact hcb) (by omega) rfl (by decide) (by omega) ⟨hT, q, hq, by rw [a17, upd_eq], by rw [a9]; exact h9⟩ d2 ((aI 13 (by decide) (by decide) (by decide)).trans h13) han hr2 hok (by show xs.length + _ ≤ _; omega) ho2 (by show od.length + _ ≤ _; omega) hou2
  rw [← hS] at k2 k3 k4 k5 k6
  have bA : ∀ k, (k < 21 ∨ 28 < k) → k ≠ 3 → k ≠ 73 → k ≠ 49 → gA σ3 k = gA σ2 k := k7.2.2.1
  refine ⟨σ3, ?_, ?_, ?_, ?_, ?_, ?_, ?_, k2, k3, k4, k5, k6, ⟨fun k a1 a2 a3 a4 a5 a6 a7 => (k7.1 k a1 a2 a4 a5).trans (aI k a3 a6 a7), fun k => (k7.2.1 k).trans ((d5.2.1 k).trans (by rw [hσ1]; rfl)), fun k a1 a2 a3 a4 a5 a6 a7 a8 a9 => (bA k a1 a2 a9 a5).trans (aA k a3 a4 a6 a7 a8), fun k a => (k7.2.2.2 k a).trans (aB k)⟩⟩
  · unfold f_M_take f_M_dropGroups
    rw [Mg14 hm, bs, h14, Mr17 hm, bs, Ms17 hm hT, bs, Mr18 hm, bs, show nI 1 &&& 1 = nI 1 from rfl, Ms18 hm hq, bs, Mg14 hm, bs, gI_sA, gI_sA, h14, nI_add, Mp14 hm, bs]
    rw [show mh m h (sI (sA (sA σ 17 (upd (gA σ 17) T (nI q))) 18 (upd (gA (sA σ 17 (upd (gA σ 17) T (nI q))) 18) q (nI 1))) 14 (nI (T + 1))) = mh m h σ1 by rw [hσ1]; rfl, e_o hm, bs, bs, q_object hm ht1, xb_mk, d1, xb_mk, Mr9 hm, bs, Ma9 hm hq, bs, a9, h9]
    exact k1
  · rw [k7.1 14 (by decide) (by decide) (by decide) (by decide), d5.1 14 (by decide) (by decide), g14]
  · rw [bA 17 (by decide) (by decide) (by decide) (by decide), a17]
  · rw [bA 18 (by decide) (by decide) (by decide) (by decide), d5.2.2.1 18 (by decide) (by decide) (by decide), g18]
  · intro i hi
    rw [bA 65 (by decide) (by decide) (by decide) (by decide)]; exact d2 i hi
  · rw [k7.1 69 (by decide) (by decide) (by decide) (by decide), d3]
  · exact RSg_eq d4 (k7.1 70 (by decide) (by decide) (by decide) (by decide)) (bA 71 (by decide) (by decide) (by decide) (by decide)) (bA 72 (by decide) (by decide) (by decide) (by decide)) (bA 6 (by decide) (by decide) (by decide) (by decide))
end MTT
end
section
/-! helps of the reference -/
/-- the name that symbol k would define, if it is wanted -/
def hp1 (b : Nat → Nat) (xs : px_NL) (k : Nat) : Option Nat := if yB b k = 0 ∨ yW b k = 0 then none else match idx (yT b k) 0 (xs.map Prod.fst) with
  | none => none
  | some i => match xs[i]? with
    | none => none
    | some x => if x.2.2.1 = true ∧ x.2.1 = 0 then some i else none
/-- the first of c of them -/
def hpf (g : Nat → Option Nat) : Nat → Nat → Option Nat
  | _, 0 => none
  | k, c + 1 => match g k with
    | some i => some i
    | none => hpf g (k + 1) c
section MHP
variable {F m o n q : Nat} {h : px_H} {b : Nat → Nat} {σ : px_S} {xs : px_NL}
theorem q_helps_9 (hm : m ≤ h.length) (hF : 65536 < F) (hw : w2 b n) (hn : o + n ≤ 65536) (hy : ∀ k, 1 ≤ k → k < oM b → yOK b k = true) (hB : ∀ k, isB (gA σ 6 k)) (hcb : cb (gA σ 6) o n = b) (hr : RL σ xs) (hok : okL xs) : ∀ (c k f : Nat), 1 ≤ k → c = oM b - k → k < 2 ^ 30 → c < f → f_M_helps_9 F f m (nI o) (nI k) (mh m h σ) = some (tdA (hpf (hp1 b xs) k c), mh m h σ) := by
  have hM := w2_M hw
  have hrk : rk (gA σ 6) o n := w1_rk (by rw [hcb]; exact hw.1) hn
  have hsm := q_symbolMany (F := F) (h := mh m h σ) (m := m) (Mmb hm hB) (by omega) hrk (by rw [hcb]; exact hw.1.2.1.1) (by rw [hcb]; exact w2_z hw)
  rw [hcb] at hsm
  have hwc : w2 (cb (gA σ 6) o n) n := by rw [hcb]; exact hw
  have hxl : xs.length ≤ 4096 := by have := hr.1.2.1; rw [List.length_map] at this; exact this
  intro c
  induction c with
  | zero =>
    intro k f h1 hc hk hf
    obtain ⟨f, rfl⟩ : ∃ x, f = x + 1 := ⟨f - 1, by omega⟩
    unfold f_M_helps_9 f_M_helps_81
    rw [e_o hm, bs, hsm, xb_mk, if_pos (nI_le (by omega) (by omega))]
    rfl
  | succ c ih =>
    intro k f h1 hc hk hf
    obtain ⟨f, rfl⟩ : ∃ x, f = x + 1 := ⟨f - 1, by omega⟩
    have hkM : k < oM b := by omega
    have hyk := hy k h1 hkM
    have hbn := q_bind (F := F) (h := mh m h σ) (m := m) (k := k) (Mmb hm hB) (by omega) hrk (by rw [hcb]; exact hw.1.2.1.1) (by rw [hcb]; exact w2_y hw hkM)
    have hwh := q_where (F := F) (h := mh m h σ) (m := m) (k := k) (Mmb hm hB) (by omega) hrk (by rw [hcb]; exact hw.1.2.1.1) (by rw [hcb]; exact w2_y hw hkM)
    rw [hcb] at hbn hwh
    have hB15 : yB b k < 16 := by
      have := yB_lt (cb_lt (gA σ 6) o n) k
      rw [hcb] at this
      exact this
    have hW := yW_2 (B := gA σ 6) (o := o) (n := n) (k := k)
    rw [hcb] at hW
    have nx : hp1 b xs k = none → f_M_helps_9 F f m (nI o) (nI (k + 1)) (mh m h σ) = some (tdA (hpf (hp1 b xs) k (c + 1)), mh m h σ) := by
      intro e
      rw [ih (k + 1) f (by omega) (by omega) (by omega) (by omega)]
      unfold hpf
      rw [e]
      cases c <;> rfl
    unfold f_M_helps_9 f_M_helps_75 f_M_helps_72
    rw [e_o hm, bs, hsm, xb_mk, if_neg (nI_ge (by omega) (by omega)), e_o hm, bs, hbn, xb_mk, nI_add]
    by_cases c1 : yB b k = 0
    · rw [if_pos (by rw [c1]; rfl)]
      exact nx (by unfold hp1; rw [if_pos (Or.inl c1)])
    · rw [if_neg (show ¬ nI (yB b k) = 0 from fun q => c1 ((nI_eq (b := 0) (by omega) (by decide)).mp q)), e_o hm, bs, hwh, xb_mk]
      by_cases c2 : yW b k = 0
      · rw [if_pos (by rw [c2]; rfl)]
        exact nx (by unfold hp1; rw [if_pos (Or.inr c2)])
      · obtain ⟨y1, y2, y3⟩ := yOK_n hyk c1
        have hno := q_nameOf (F := F) (o := o) (n := n) (k := k) hm (by omega) hB hwc hn (by rw [hcb]; exact hkM) (by rw [hcb]; exact y2) hr
        rw [hcb] at hno
        rw [if_neg (show ¬ nI (yW b k) = 0 from fun q => c2 ((nI_eq (b := 0) (by omega) (by decide)).mp q)), e_o hm, bs, hno, xb_mk]
        have e0 : hp1 b xs k = match idx (yT b k) 0 (xs.map Prod.fst) with
            | none => none
            | some i => match xs[i]? with
              | none => none
              | some x => if x.2.2.1 = true ∧ x.2.1 = 0 then some i else none := by
          unfold hp1
          rw [if_neg (fun q => q.elim c1 c2)]
        have hs1 : ∀ i, hp1 b xs k = some i → hpf (hp1 b xs) k (c + 1) = some i := by
          intro i e
          unfold hpf
          rw [e]
        generalize hp1 b xs = G at *
        cases ei : idx (yT b k) 0 (xs.map Prod.fst) with
        | none =>
          rw [ei] at e0
          rw [if_pos (show tdA none < 0 from m1_neg)]
          exact nx e0
        | some i =>
          have hi := idx_lt ei
          rw [List.length_map] at hi
          rw [ei] at e0
          obtain ⟨x, hx⟩ : ∃ x, xs[i]? = some x := ⟨xs[i]'(by omega), List.getElem?_eq_getElem (by omega)⟩
          have e1 : G k = if x.2.2.1 = true ∧ x.2.1 = 0 then some i else none := by
            rw [e0]
            show (match xs[i]? with | none => none | some x => if x.2.2.1 = true ∧ x.2.1 = 0 then some i else none) = _
            rw [hx]
          have rr := hr.2 i x hx
          have hx4 := (hok i x hx).1
          rw [if_neg (show ¬ tdA (some i) < 0 from nI_pos (by omega)), show tdA (some i) = nI i from rfl, Mr28 hm, bs, Ma28 hm (by omega), bs, rr.2.1, Mr23 hm, bs, Ma23 hm (by omega), bs, rr.1]
          cases ew : x.2.2.1 with
          | false =>
            rw [if_pos (show bI false = 0 from rfl)]
            exact nx (by rw [e1, ew, if_neg (fun q => nomatch q.1)])
          | true =>
            rw [if_neg (show ¬ bI true = 0 by decide)]
            by_cases c3 : x.2.1 = 0
            · rw [if_pos (by rw [c3]; rfl), hs1 i (by rw [e1, if_pos ⟨ew, c3⟩])]
              rfl
            · rw [if_neg (show ¬ nI x.2.1 = 0 from fun q => c3 ((nI_eq (b := 0) (by omega) (by decide)).mp q))]
              exact nx (by rw [e1, if_neg (fun q => c3 q.2)])
theorem q_helps (hm : m ≤ h.length) (hF : 65536 < F) (he : eObj b n = 0) (hn : o + n ≤ 65536) (hB : ∀ k, isB (gA σ 6 k)) (hcb : cb (gA σ 6) o n = b) (hq : q < 64) (h9 : gA σ 9 q = nI o) (hr : RL σ xs) (hok : okL xs) : f_M_helps F m (nI q) (mh m h σ) = some (tdA (hpf (hp1 b xs) 1 (oM b - 1)), mh m h σ) := by
  obtain ⟨hw, hy, hg⟩ := eObj_0 he
  have hM64 := w2_M hw
  unfold f_M_helps
  rw [Mr9 hm, bs, Ma9 hm hq, bs, h9, q_helps_9 hm hF hw hn hy hB hcb hr hok (oM b - 1) 1 F (by omega) rfl (by decide) (by omega)]
end MHP
end
section
/-! the files' objects; what is taken: pure -/
/-- what has changed is among these -/
def FR (I J A B : List Nat) (σ σ' : px_S) : Prop := (∀ k, k ∉ I → gI σ' k = gI σ k) ∧ (∀ k, k ∉ J → gJ σ' k = gJ σ k) ∧ (∀ k, k ∉ A → gA σ' k = gA σ k) ∧ (∀ k, k ∉ B → gB σ' k = gB σ k)
theorem FR_refl {I J A B : List Nat} (σ : px_S) : FR I J A B σ σ := ⟨fun _ _ => rfl, fun _ _ => rfl, fun _ _ => rfl, fun _ _ => rfl⟩
theorem FR_trans {I J A B : List Nat} {σ σ1 σ2 : px_S} (h : FR I J A B σ σ1) (g : FR I J A B σ1 σ2) : FR I J A B σ σ2 := ⟨fun k a => (g.1 k a).trans (h.1 k a), fun k a => (g.2.1 k a).trans (h.2.1 k a), fun k a => (g.2.2.1 k a).trans (h.2.2.1 k a), fun k a => (g.2.2.2 k a).trans (h.2.2.2 k a)⟩
theorem FR_mono {I J A B I' J' A' B' : List Nat} {σ σ' : px_S} (h : FR I J A B σ σ') (hI : ∀ k, k ∈ I → k ∈ I') (hJ : ∀ k, k ∈ J → k ∈ J') (hA : ∀ k, k ∈ A → k ∈ A') (hB : ∀ k, k ∈ B → k ∈ B') : FR I' J' A' B' σ σ' := ⟨fun k a => h.1 k (fun q => a (hI k q)), fun k a => h.2.1 k (fun q => a (hJ k q)), fun k a => h.2.2.1 k (fun q => a (hA k q)), fun k a => h.2.2.2 k (fun q => a (hB k q))⟩
theorem FR_I (σ : px_S) (k : Nat) (v : Int32) : FR [k] [] [] [] σ (sI σ k v) := ⟨fun i hi => by rw [gI_sI, if_neg (fun q => hi (by rw [q]; exact List.mem_singleton.mpr rfl))], fun _ _ => rfl, fun _ _ => rfl, fun _ _ => rfl⟩
theorem FR_J (σ : px_S) (k : Nat) (v : Int64) : FR [] [k] [] [] σ (sJ σ k v) := ⟨fun _ _ => rfl, fun i hi => by rw [gJ_sJ, if_neg (fun q => hi (by rw [q]; exact List.mem_singleton.mpr rfl))], fun _ _ => rfl, fun _ _ => rfl⟩
theorem FR_A (σ : px_S) (k : Nat) (v : Nat → Int32) : FR [] [] [k] [] σ (sA σ k v) := ⟨fun _ _ => rfl, fun _ _ => rfl, fun i hi => by rw [gA_sA, if_neg (fun q => hi (by rw [q]; exact List.mem_singleton.mpr rfl))], fun _ _ => rfl⟩
theorem FR_B (σ : px_S) (k : Nat) (v : Nat → Int64) : FR [] [] [] [k] σ (sB σ k v) := ⟨fun _ _ => rfl, fun _ _ => rfl, fun _ _ => rfl, fun i hi => by rw [gB_sB, if_neg (fun q => hi (by rw [q]; exact List.mem_singleton.mpr rfl))]⟩
theorem nodup_le (a : Nat) : ∀ (N : Nat) (l : List Nat), l.Nodup → (∀ x, x ∈ l → a ≤ x ∧ x < a + N) → l.length ≤ N := by
  intro N
  induction N with
  | zero =>
    intro l _ h
    cases l with
    | nil => exact Nat.le_refl _
    | cons y l =>
      have := h y List.mem_cons_self
      omega
  | succ N ih =>
    intro l hd h
    by_cases c : a + N ∈ l
    · have e := List.length_erase_of_mem c
      have hp : 0 < l.length := List.length_pos_of_mem c
      have := ih (l.erase (a + N)) (hd.erase (a + N)) (fun x hx => by
        have hm := (List.Nodup.mem_erase_iff hd (a := x) (b := a + N)).mp hx
        have h1 := h x hm.2
        have h2 := hm.1
        omega)
      omega
    · have := ih l hd (fun x hx => by
        have h1 := h x hx
        have h2 : x ≠ a + N := fun q => c (q ▸ hx)
        omega)
      omega
theorem itr_le {α : Type} {g : Nat → α → α} {μ : α → Nat} (h : ∀ i s, μ (g i s) ≤ μ s + 1) : ∀ (c i : Nat) (s : α), μ (itr g i c s) ≤ μ s + c := by
  intro c
  induction c with
  | zero => intro i s; rw [itr_0]; exact Nat.le_refl _
  | succ c ih =>
    intro i s
    rw [itr_s]
    have h1 := ih (i + 1) (g i s)
    have h2 := h i s
    omega
theorem itr_inv {α : Type} {g : Nat → α → α} {P : α → Prop} {a e : Nat} (h : ∀ i s, a ≤ i → i < e → P s → P (g i s)) : ∀ (c i : Nat) (s : α), a ≤ i → i + c ≤ e → P s → P (itr g i c s) := by
  intro c
  induction c with
  | zero => intro i s _ _ hs; rw [itr_0]; exact hs
  | succ c ih =>
    intro i s h1 h2 hs
    rw [itr_s]
    exact ih (i + 1) (g i s) (by omega) (by omega) (h i s h1 (by omega) hs)
abbrev px_FS : Type := List (Nat × (Nat → Nat))
/-- member q = 8 f + k: where it stands, how long it is, its bytes, whether it counts for nothing -/
def obAt (fs : px_FS) (q : Nat) : Option (Nat × Nat × (Nat → Nat) × Bool) := match fs[q / 8]? with
  | none => none
  | some x => match fMem x.2 x.1 with
    | none => none
    | some l => match l[q % 8]? with
      | none => none
      | some y => some (8192 * (q / 8) + y.1, y.2.1, sub x.2 y.1 y.2.1, y.2.2)
theorem mrow_at {σ : px_S} {f : Nat} : ∀ {l : List (Nat × Nat × Bool)} {c k : Nat} {x : Nat × Nat × Bool}, mrow σ f c l → l[k]? = some x → gA σ 9 (8 * f + (c + k)) = nI (8192 * f + x.1) ∧ gA σ 10 (8 * f + (c + k)) = nI x.2.1 ∧ gA σ 12 (8 * f + (c + k)) = bI x.2.2
  | [], c, k, x, _, h => by rw [List.getElem?_nil] at h; cases h
  | y :: l, c, k, x, h, hx => by
    unfold mrow at h
    cases k with
    | zero =>
      have e : y = x := Option.some.inj hx
      rw [← e]
      exact h.1
    | succ k =>
      have := mrow_at (c := c + 1) (k := k) h.2 hx
      rw [show c + (k + 1) = c + 1 + k by omega]
      exact this
theorem eMem_at {b : Nat → Nat} : ∀ {l : List (Nat × Nat × Bool)} {k : Nat} {x : Nat × Nat × Bool}, eMem b l = 0 → l[k]? = some x → x.2.2 = false → eObj (sub b x.1 x.2.1) x.2.1 = 0
  | [], k, x, _, h, _ => by rw [List.getElem?_nil] at h; cases h
  | y :: l, k, x, h, hx, hs => by
    rw [eMem_s] at h
    by_cases c : y.2.2 = false ∧ eObj (sub b y.1 y.2.1) y.2.1 ≠ 0
    · rw [if_pos c] at h
      exact absurd h c.2
    · rw [if_neg c] at h
      cases k with
      | zero =>
        have e : y = x := Option.some.inj hx
        rw [← e] at hs ⊢
        by_cases c2 : eObj (sub b y.1 y.2.1) y.2.1 = 0
        · exact c2
        · exact absurd ⟨hs, c2⟩ c
      | succ k => exact eMem_at (k := k) h hx hs
theorem RF_ob {σ : px_S} {fs : px_FS} {q o n : Nat} {b : Nat → Nat} {sk : Bool} (hr : RF σ fs) (hq : obAt fs q = some (o, n, b, sk)) : q < 64 ∧ gA σ 9 q = nI o ∧ gA σ 10 q = nI n ∧ gA σ 12 q = bI sk ∧ cb (gA σ 6) o n = b ∧ o + n ≤ 65536 ∧ (sk = false → eObj b n = 0) := by
  obtain ⟨r1, r2, r3, r4⟩ := hr
  unfold obAt at hq
  cases e1 : fs[q / 8]? with
  | none => rw [e1] at hq; cases hq
  | some x =>
    rw [e1] at hq
    have hf := (List.getElem?_eq_some_iff.mp e1).1
    obtain ⟨a1, a2, a3, a4, l, a5, a6, a7⟩ := r4 (q / 8) x e1
    cases e2 : fMem x.2 x.1 with
    | none => rw [e2] at a5; cases a5
    | some l' =>
      have hq : (match fMem x.2 x.1 with
        | none => none
        | some l => match l[q % 8]? with
          | none => none
          | some y => some (8192 * (q / 8) + y.1, y.2.1, sub x.2 y.1 y.2.1, y.2.2)) = some (o, n, b, sk) := hq
      rw [e2] at hq a5
      have el : l' = l := Option.some.inj a5
      subst el
      have hq : (match l'[q % 8]? with
          | none => none
          | some y => some (8192 * (q / 8) + y.1, y.2.1, sub x.2 y.1 y.2.1, y.2.2)) = some (o, n, b, sk) := hq
      cases e3 : l'[q % 8]? with
      | none => rw [e3] at hq; cases hq
      | some y =>
        rw [e3] at hq
        have hq : some (8192 * (q / 8) + y.1, y.2.1, sub x.2 y.1 y.2.1, y.2.2) = some (o, n, b, sk) := hq
        injection hq with hq
        injection hq with q1 q2
        injection q2 with q2 q3
        injection q3 with q3 q4
        have hm := mrow_at a6 e3
        rw [Nat.zero_add, show 8 * (q / 8) + q % 8 = q by omega] at hm
        have hle := (fMem_le e2).2 y (List.mem_of_getElem? e3)
        have he : eMem x.2 l' = 0 := by
          have := a3
          unfold eFil at this
          rw [e2] at this
          exact this
        refine ⟨by omega, ?_, ?_, ?_, ?_, by omega, fun hs => ?_⟩
        · rw [← q1]; exact hm.1
        · rw [← q2]; exact hm.2.1
        · rw [← q4]; exact hm.2.2
        · rw [← q1, ← q2, ← q3, cb_sub hle]
          unfold fb at a2
          rw [a2]
        · rw [← q2, ← q3]
          exact eMem_at he e3 (q4.trans hs)
theorem RF_FR {σ σ' : px_S} {I J A B : List Nat} {fs : px_FS} (hr : RF σ fs) (h : FR I J A B σ σ') (h5 : 5 ∉ I) (hA : 6 ∉ A ∧ 8 ∉ A ∧ 9 ∉ A ∧ 10 ∉ A ∧ 11 ∉ A ∧ 12 ∉ A) : RF σ' fs := by
  obtain ⟨r1, r2, r3, r4⟩ := hr
  have e6 := h.2.2.1 6 hA.1
  refine ⟨(h.1 5 h5).trans r1, r2, by rw [e6]; exact r3, fun f x hx => RF1_eq (r4 f x hx) ?_ ?_ ?_ ?_⟩
  · unfold fb; rw [e6]
  · rw [h.2.2.1 8 hA.2.1]
  · rw [h.2.2.1 11 hA.2.2.2.2.1]
  · intro i _ _
    rw [h.2.2.1 9 hA.2.2.1, h.2.2.1 10 hA.2.2.2.1, h.2.2.1 12 hA.2.2.2.2.2]
    exact ⟨rfl, rfl, rfl⟩
/-- what is taken: (answer, names, order of definitions, blamed), (dropped sections, dropped groups, signatures), the members taken, each member's cause -/
abbrev px_TK : Type := px_TS × ((Nat → Bool) × Nat × List (List Nat)) × List Nat × (Nat → Option Nat)
/-- member q, bytes b, is taken -/
def tkM (b : Nat → Nat) (q : Nat) (s : px_TK) : px_TK :=
  (itr (tk1 (itr (dg1 s.2.2.1.length b) 1 (oS b - 1) s.2.1).1 s.2.2.1.length b) 1 (oM b - 1) s.1, itr (dg1 s.2.2.1.length b) 1 (oS b - 1) s.2.1, s.2.2.1 ++ [q], s.2.2.2)
/-- what is known of that -/
def BK (fs : px_FS) (s : px_TK) : Prop := s.1.1 ≤ 2 ∧ okL s.1.2.1 ∧ s.1.2.1.length ≤ 32 + 63 * s.2.2.1.length ∧ s.1.2.2.1.length ≤ 32 + 63 * s.2.2.1.length ∧ s.2.1.2.2.length ≤ 23 * s.2.2.1.length ∧ s.2.2.1.Nodup ∧ ∀ q, q ∈ s.2.2.1 → q < 64 ∧ ∃ o n b, obAt fs q = some (o, n, b, false)
theorem tk1_len {dr : Nat → Bool} {t : Nat} {b : Nat → Nat} {k : Nat} {s : px_TS} : (tk1 dr t b k s).2.1.length ≤ s.2.1.length + 1 ∧ (tk1 dr t b k s).2.2.1.length ≤ s.2.2.1.length + 1 ∧ (s.1 ≤ 2 → (tk1 dr t b k s).1 ≤ 2) := by
  have h1 := entL_len (w := yT b k) (xs := s.2.1)
  have h2 := comS_len (dr := dr) (t := t) (b := b) (k := k) (st := (s.2.1, s.2.2.1))
  unfold tk1
  generalize comS dr t b k (s.2.1, s.2.2.1) = R at *
  split
  · exact ⟨Nat.le_succ _, Nat.le_succ _, id⟩
  · split
    · exact ⟨h1, Nat.le_succ _, fun _ => (by decide : 1 ≤ 2)⟩
    · split
      · exact ⟨h2.1, h2.2, id⟩
      · exact ⟨h2.1, h2.2, fun _ => (by decide : 1 ≤ 2)⟩
theorem dg1_len {t : Nat} {b : Nat → Nat} {i : Nat} {s : (Nat → Bool) × Nat × List (List Nat)} : (dg1 t b i s).2.2.length ≤ s.2.2.length + 1 := by
  unfold dg1
  repeat (first | split | (exact Nat.le_succ _) | (dsimp only; rw [List.length_append]; exact Nat.le_refl _))
theorem okL_setR {xs : px_NL} {i : Nat} {f : px_NR → px_NR} (h : okL xs) (hf : ∀ r, okR r → okR (f r)) : okL (setR xs i f) := by
  unfold setR
  cases e : xs[i]? with
  | none => exact h
  | some x => exact okL_set h (hf x.2 (h i x e))
theorem okL_tk1 {dr : Nat → Bool} {t : Nat} {b : Nat → Nat} {k : Nat} {s : px_TS} (h : okL s.2.1) (hy : yOK b k = true) : okL (tk1 dr t b k s).2.1 := by
  unfold tk1
  by_cases c1 : yB b k = 0
  · rw [if_pos c1]; exact h
  · rw [if_neg c1]
    have hn := yOK_n hy c1
    have h2 := okL_ent (w := yT b k) h
    have hc : okL (comS dr t b k (s.2.1, s.2.2.1)).2.1 := by
      unfold comS
      split
      · dsimp only
        refine okL_setR h2 (fun r hr => ?_)
        exact hr
      · split
        · exact h2
        · dsimp only
          refine okL_setR h2 (fun r hr => okR_cm hr sOf_4 (fun q => ?_) (fun q => ?_))
          · have := (hn.2.2 (sOf_2 q)).2; omega
          · have := (hn.2.2 (sOf_2 q)).1; omega
    generalize comS dr t b k (s.2.1, s.2.2.1) = R at *
    split
    · exact h2
    · split
      · exact hc
      · exact hc
theorem BK_tk {fs : px_FS} {s : px_TK} {q o n : Nat} {b : Nat → Nat} (hb : BK fs s) (hq : obAt fs q = some (o, n, b, false)) (h64 : q < 64) (hn : q ∉ s.2.2.1) (hS : oS b ≤ 24) (hM : oM b ≤ 64) (hy : ∀ k, 1 ≤ k → k < oM b → yOK b k = true) : BK fs (tkM b q s) := by
  obtain ⟨b1, b2, b3, b4, b5, b6, b7⟩ := hb
  have l1 : (s.2.2.1 ++ [q]).length = s.2.2.1.length + 1 := by rw [List.length_append]; rfl
  refine ⟨?_, ?_, ?_, ?_, ?_, ?_, ?_⟩
  · exact itr_inv (P := fun s : px_TS => s.1 ≤ 2) (a := 0) (e := oM b + 1) (fun i s _ _ hs => tk1_len.2.2 hs) (oM b - 1) 1 s.1 (by omega) (by omega) b1
  · by_cases c : oM b = 0
    · show okL (itr _ 1 (oM b - 1) s.1).2.1
      rw [c]; exact b2
    · exact itr_inv (P := fun s : px_TS => okL s.2.1) (a := 1) (e := oM b) (fun i s h1 h2 hs => okL_tk1 hs (hy i h1 h2)) (oM b - 1) 1 s.1 (by omega) (by omega) b2
  · have := itr_le (g := tk1 (itr (dg1 s.2.2.1.length b) 1 (oS b - 1) s.2.1).1 s.2.2.1.length b) (μ := fun s : px_TS => s.2.1.length) (fun i s => tk1_len.1) (oM b - 1) 1 s.1
    show (itr _ 1 (oM b - 1) s.1).2.1.length ≤ 32 + 63 * (s.2.2.1 ++ [q]).length
    rw [l1]
    generalize (itr (tk1 (itr (dg1 s.2.2.1.length b) 1 (oS b - 1) s.2.1).1 s.2.2.1.length b) 1 (oM b - 1) s.1) = R at *
    omega
  · have := itr_le (g := tk1 (itr (dg1 s.2.2.1.length b) 1 (oS b - 1) s.2.1).1 s.2.2.1.length b) (μ := fun s : px_TS => s.2.2.1.length) (fun i s => tk1_len.2.1) (oM b - 1) 1 s.1
    show (itr _ 1 (oM b - 1) s.1).2.2.1.length ≤ 32 + 63 * (s.2.2.1 ++ [q]).length
    rw [l1]
    generalize (itr (tk1 (itr (dg1 s.2.2.1.length b) 1 (oS b - 1) s.2.1).1 s.2.2.1.length b) 1 (oM b - 1) s.1) = R at *
    omega
  · have := itr_le (g := dg1 s.2.2.1.length b) (μ := fun s : (Nat → Bool) × Nat × List (List Nat) => s.2.2.length) (fun i s => dg1_len) (oS b - 1) 1 s.2.1
    show (itr _ 1 (oS b - 1) s.2.1).2.2.length ≤ 23 * (s.2.2.1 ++ [q]).length
    rw [l1]
    generalize (itr (dg1 s.2.2.1.length b) 1 (oS b - 1) s.2.1) = R at *
    omega
  · show (s.2.2.1 ++ [q]).Nodup
    rw [List.nodup_append]
    exact ⟨b6, List.nodup_cons.mpr ⟨List.not_mem_nil, List.nodup_nil⟩, fun x hx y hy e => hn (by rw [List.mem_singleton.mp hy] at e; exact e ▸ hx)⟩
  · intro x hx
    rcases List.mem_append.mp hx with hx | hx
    · exact b7 x hx
    · rw [List.mem_singleton.mp hx]
      exact ⟨h64, o, n, b, hq⟩
end
section
/-! takeFrom, takeAll of the reference -/
abbrev tkI : List Nat := [4, 13, 14, 20, 48, 69, 70]
abbrev tkA : List Nat := [3, 17, 18, 21, 22, 23, 24, 25, 26, 27, 28, 40, 49, 65, 71, 72, 73]
def RK (σ0 σ : px_S) (s : px_TK) : Prop := gI σ 13 = nI s.1.1 ∧ RL σ s.1.2.1 ∧ RO σ s.1.2.2.1 ∧ OU σ0 σ s.1.2.2.2 ∧ RDr σ s.2.1.1 ∧ gI σ 69 = nI s.2.1.2.1 ∧ RSg σ s.2.1.2.2 ∧ gI σ 14 = nI s.2.2.1.length ∧ (∀ i q, s.2.2.1[i]? = some q → gA σ 17 i = nI q) ∧ (∀ q, q < 64 → gA σ 18 q = bI (decide (q ∈ s.2.2.1))) ∧ ∀ q, q < 64 → gA σ 40 q = tdA (s.2.2.2 q)
theorem frY_FR {σ σ' : px_S} (h : frY σ σ') : FR tkI [] tkA [30] σ σ' := by
  refine ⟨fun k hk => ?_, fun k _ => h.2.1 k, fun k hk => ?_, fun k hk => ?_⟩
  · simp only [tkI, List.mem_cons, List.not_mem_nil, not_or, or_false] at hk
    exact h.1 k (by omega) (by omega) (by omega) (by omega) (by omega) (by omega) (by omega)
  · simp only [tkA, List.mem_cons, List.not_mem_nil, not_or, or_false] at hk
    exact h.2.2.1 k (by omega) (by omega) (by omega) (by omega) (by omega) (by omega) (by omega) (by omega) (by omega)
  · simp only [List.mem_cons, List.not_mem_nil, or_false] at hk
    exact h.2.2.2 k hk
theorem OU_3 {σ0 σ : px_S} {bl : Option (List Nat)} (h : OU σ0 σ bl) (h0 : ∀ k, isB (gA σ0 3 k)) : ∀ k, isB (gA σ 3 k) := by
  cases bl with
  | none => rw [(h.1 rfl).2]; exact h0
  | some w => exact (h.2 w rfl).2.2.1
section MTF
variable {F m q o n f : Nat} {h : px_H} {b : Nat → Nat} {σ0 : px_S} {fs : px_FS}
theorem q_takeK {σ : px_S} {s : px_TK} (hm : m ≤ h.length) (hF : 65536 < F) (hr : RF σ fs) (hB0 : ∀ k, isB (gA σ0 3 k)) (hk : RK σ0 σ s) (hb : BK fs s) (hq : obAt fs q = some (o, n, b, false)) (hnt : q ∉ s.2.2.1) : ∃ σ', f_M_take F m (nI q) (mh m h σ) = some ((), mh m h σ') ∧ RK σ0 σ' (tkM b q s) ∧ BK fs (tkM b q s) ∧ FR tkI [] tkA [30] σ σ' := by
  obtain ⟨r1, r2, r3, r4, r5, r6, r7⟩ := RF_ob hr hq
  obtain ⟨k1, k2, k3, k4, k5, k6, k7, k8, k9, k10, k11⟩ := hk
  have hb0 := hb
  obtain ⟨b1, b2, b3, b4, b5, b6, b7⟩ := hb
  have he := r7 rfl
  obtain ⟨w, y, g⟩ := eObj_0 he
  have hT : s.2.2.1.length < 64 := by
    have hnd : (q :: s.2.2.1).Nodup := List.nodup_cons.mpr ⟨hnt, b6⟩
    have := nodup_le 0 64 (q :: s.2.2.1) hnd (fun x hx => by
      rcases List.mem_cons.mp hx with e | e
      · omega
      · have := (b7 x e).1; omega)
    rw [List.length_cons] at this
    omega
  obtain ⟨σ', t1, t2, t3, t4, t5, t6, t7, t8, t9, t10, t11, t12, t13⟩ := q_take (F := F) (o := o) (n := n) (q := q) (T := s.2.2.1.length) (dm := s.2.1.2.1) (an := s.1.1) (dr := s.2.1.1) (b := b) (σ0 := σ0) (sg := s.2.1.2.2) (xs := s.1.2.1) (od := s.1.2.2.1) (bl := s.1.2.2.2) hm hF he r6 hr.2.2.1 (OU_3 k4 hB0) r5 hT k8 r1 r2 k5 k6 k7 (by omega) k1 b1 k2 b2 (by omega) k3 (by omega) k4 (itr (dg1 s.2.2.1.length b) 1 (oS b - 1) s.2.1) rfl (itr (tk1 (itr (dg1 s.2.2.1.length b) 1 (oS b - 1) s.2.1).1 s.2.2.1.length b) 1 (oM b - 1) s.1) rfl
  have hbk := BK_tk hb0 hq r1 hnt (by have := w.1.2.1.2; omega) (by have := w2_M w; omega) y
  refine ⟨σ', t1, ⟨t8, t9, t11, t12, t5, t6, t7, ?_, ?_, ?_, ?_⟩, hbk, frY_FR t13⟩
  · rw [t2]
    show _ = nI (s.2.2.1 ++ [q]).length
    rw [List.length_append]; rfl
  · intro i x hx
    have hx : (s.2.2.1 ++ [q])[i]? = some x := hx
    rw [t3]
    by_cases c : i < s.2.2.1.length
    · rw [List.getElem?_append_left c] at hx
      rw [upd_ne (by omega)]
      exact k9 i x hx
    · have hl := (List.getElem?_eq_some_iff.mp hx).1
      rw [List.length_append] at hl
      have hl : i < s.2.2.1.length + 1 := hl
      have e : i = s.2.2.1.length := by omega
      rw [e, List.getElem?_append_right (Nat.le_refl _), Nat.sub_self] at hx
      have hx : q = x := Option.some.inj hx
      rw [e, upd_eq, hx]
  · intro x hx
    rw [t4]
    by_cases c : x = q
    · rw [c, upd_eq]
      show nI 1 = bI (decide (q ∈ s.2.2.1 ++ [q]))
      rw [decide_eq_true (List.mem_append_right _ (List.mem_singleton.mpr rfl))]
      rfl
    · rw [upd_ne c, k10 x hx]
      show _ = bI (decide (x ∈ s.2.2.1 ++ [q]))
      have : (x ∈ s.2.2.1 ++ [q]) ↔ (x ∈ s.2.2.1) := by
        rw [List.mem_append]
        exact ⟨fun hh => hh.elim id (fun hh => absurd (List.mem_singleton.mp hh) c), Or.inl⟩
      rw [decide_eq_decide.mpr this]
  · intro x hx
    rw [t13.2.2.1 40 (by omega) (by decide) (by decide) (by decide) (by decide) (by decide) (by decide) (by decide) (by decide)]
    exact k11 x hx
/-- one member of file f; whether one was taken -/
def tf1 (fs : px_FS) (f k : Nat) (p : px_TK × Bool) : px_TK × Bool := if p.1.1.1 = 1 then p else match obAt fs (8 * f + k) with
  | none => p
  | some y => if y.2.2.2 = true ∨ 8 * f + k ∈ p.1.2.2.1 then p else match hpf (hp1 y.2.2.1 p.1.1.2.1) 1 (oM y.2.2.1 - 1) with
    | none => p
    | some i => (tkM y.2.2.1 (8 * f + k) (p.1.1, p.1.2.1, p.1.2.2.1, fun x => if x = 8 * f + k then some i else p.1.2.2.2 x), true)
theorem itr_id {α : Type} {g : Nat → α → α} {s : α} (h : ∀ i, g i s = s) : ∀ (c i : Nat), itr g i c s = s := by
  intro c
  induction c with
  | zero => intro i; rfl
  | succ c ih => intro i; rw [itr_s, h i, ih]
theorem tf1_1 {k : Nat} {p : px_TK × Bool} (h : p.1.1.1 = 1) : tf1 fs f k p = p := by unfold tf1; rw [if_pos h]
theorem obAt_none {σ : px_S} (hr : RF σ fs) {l : List (Nat × Nat × Bool)} {x : Nat × (Nat → Nat)} (hx : fs[f]? = some x) (hl : fMem x.2 x.1 = some l) {k : Nat} (hk : k < 8) : obAt fs (8 * f + k) = (l[k]?).map (fun y => (8192 * f + y.1, y.2.1, sub x.2 y.1 y.2.1, y.2.2)) := by
  unfold obAt
  rw [show (8 * f + k) / 8 = f by omega, show (8 * f + k) % 8 = k by omega, hx]
  show (match fMem x.2 x.1 with
    | none => none
    | some l => match l[k]? with
      | none => none
      | some y => some (8192 * f + y.1, y.2.1, sub x.2 y.1 y.2.1, y.2.2)) = _
  rw [hl]
  show (match l[k]? with
      | none => none
      | some y => some (8192 * f + y.1, y.2.1, sub x.2 y.1 y.2.1, y.2.2)) = _
  cases l[k]? <;> rfl
end MTF
theorem itr_idr {α : Type} {g : Nat → α → α} {s : α} : ∀ (c i : Nat), (∀ j, i ≤ j → j < i + c → g j s = s) → itr g i c s = s := by
  intro c
  induction c with
  | zero => intro i _; rfl
  | succ c ih => intro i h; rw [itr_s, h i (Nat.le_refl _) (by omega), ih (i + 1) (fun j h1 h2 => h j (by omega) (by omega))]
theorem RL_FR {σ σ' : px_S} {I J A B : List Nat} {xs : px_NL} (h : RL σ xs) (f : FR I J A B σ σ') (h20 : 20 ∉ I) (hA : ∀ k, k ∈ [21, 22, 23, 24, 25, 26, 27, 28, 73] → k ∉ A) (hB : 30 ∉ B) : RL σ' xs :=
  ⟨RNm_eq h.1 (f.1 20 h20) (f.2.2.1 21 (hA 21 (by decide))) (f.2.2.1 22 (hA 22 (by decide))), fun i x hx => rrec_eq (h.2 i x hx) (fun k hk => by rw [f.2.2.1 k (hA k (by rcases hk with e | e | e | e | e | e | e <;> rw [e] <;> decide))]) (by rw [f.2.2.2 30 hB])⟩
theorem RO_FR {σ σ' : px_S} {I J A B : List Nat} {od : List Nat} (h : RO σ od) (f : FR I J A B σ σ') (h48 : 48 ∉ I) (h49 : 49 ∉ A) : RO σ' od :=
  ⟨(f.1 48 h48).trans h.1, h.2.1, fun i d hd => by rw [f.2.2.1 49 h49]; exact h.2.2 i d hd⟩
theorem OU_FR {σ0 σ σ' : px_S} {I J A B : List Nat} {bl : Option (List Nat)} (h : OU σ0 σ bl) (f : FR I J A B σ σ') (h4 : 4 ∉ I) (h3 : 3 ∉ A) : OU σ0 σ' bl := by
  have e4 := f.1 4 h4
  have e3 := f.2.2.1 3 h3
  unfold OU ROu at h ⊢
  rw [e4, e3]; exact h
theorem RK_FR {σ0 σ σ' : px_S} {I J A B : List Nat} {s : px_TK} {ca : Nat → Option Nat} (h : RK σ0 σ s) (f : FR I J A B σ σ') (hI : ∀ k, k ∈ [4, 13, 14, 20, 48, 69, 70] → k ∉ I) (hA : ∀ k, k ∈ [3, 6, 17, 18, 21, 22, 23, 24, 25, 26, 27, 28, 49, 65, 71, 72, 73] → k ∉ A) (hB : 30 ∉ B) (hc : ∀ q, q < 64 → gA σ' 40 q = tdA (ca q)) : RK σ0 σ' (s.1, s.2.1, s.2.2.1, ca) := by
  obtain ⟨k1, k2, k3, k4, k5, k6, k7, k8, k9, k10, k11⟩ := h
  refine ⟨(f.1 13 (hI 13 (by decide))).trans k1, RL_FR k2 f (hI 20 (by decide)) (fun k hk => hA k (by revert k; decide)) hB, RO_FR k3 f (hI 48 (by decide)) (hA 49 (by decide)), OU_FR k4 f (hI 4 (by decide)) (hA 3 (by decide)), ?_, (f.1 69 (hI 69 (by decide))).trans k6, RSg_eq k7 (f.1 70 (hI 70 (by decide))) (f.2.2.1 71 (hA 71 (by decide))) (f.2.2.1 72 (hA 72 (by decide))) (f.2.2.1 6 (hA 6 (by decide))), (f.1 14 (hI 14 (by decide))).trans k8, ?_, ?_, hc⟩
  · intro i hi
    rw [f.2.2.1 65 (hA 65 (by decide))]; exact k5 i hi
  · intro i q hq
    rw [f.2.2.1 17 (hA 17 (by decide))]; exact k9 i q hq
  · intro q hq
    rw [f.2.2.1 18 (hA 18 (by decide))]; exact k10 q hq
theorem hp1_lt {b : Nat → Nat} {xs : px_NL} {k i : Nat} (h : hp1 b xs k = some i) : i < xs.length := by
  unfold hp1 at h
  split at h
  · cases h
  · split at h
    · cases h
    · split at h
      · cases h
      · rename_i e
        split at h
        · have := Option.some.inj h
          rw [← this]
          exact (List.getElem?_eq_some_iff.mp e).1
        · cases h
theorem hpf_lt {b : Nat → Nat} {xs : px_NL} {i : Nat} : ∀ {c k : Nat}, hpf (hp1 b xs) k c = some i → i < xs.length := by
  intro c
  induction c with
  | zero => intro k h; exact nomatch h
  | succ c ih =>
    intro k h
    unfold hpf at h
    cases e : hp1 b xs k with
    | none => rw [e] at h; exact ih (by cases c <;> exact h)
    | some j =>
      rw [e] at h
      have h : some j = some i := h
      rw [← Option.some.inj h]
      exact hp1_lt e
theorem nI_0le {i : Nat} (h : i < 2 ^ 31) : (0 : Int32) ≤ nI i := nI_le (a := 0) (Nat.zero_le _) h
section MTG
variable {F m f : Nat} {h : px_H} {σ0 : px_S} {fs : px_FS} {k2 : Nat → Int32 → Int32 → px_H → Option (Unit × px_H)}
theorem RF_row {σ : px_S} {x : Nat × (Nat → Nat)} {l : List (Nat × Nat × Bool)} (hr : RF σ fs) (hx : fs[f]? = some x) (hl : fMem x.2 x.1 = some l) : gA σ 8 f = nI l.length ∧ l.length ≤ 8 ∧ f < 8 ∧ gA σ 11 f = bI (isAr x.2 x.1) := by
  obtain ⟨r1, r2, r3, r4⟩ := hr
  obtain ⟨a1, a2, a3, a4, l', a5, a6, a7⟩ := r4 f x hx
  rw [hl] at a5
  have e : l = l' := Option.some.inj a5
  subst e
  have := (fMem_le hl).1
  have hf := (List.getElem?_eq_some_iff.mp hx).1
  exact ⟨a7, by omega, by omega, a4⟩
theorem q_tF_18 (hm : m ≤ h.length) (hF : 65536 < F) (hB0 : ∀ k, isB (gA σ0 3 k)) {x : Nat × (Nat → Nat)} {l : List (Nat × Nat × Bool)} (hx : fs[f]? = some x) (hl : fMem x.2 x.1 = some l) : ∀ (c k g : Nat) (σ : px_S) (p : px_TK × Bool), k + c = 8 → c < g → RF σ fs → RK σ0 σ p.1 → BK fs p.1 → ∃ σ', f_M_takeFrom_18 F k2 g m (nI f) (bI p.2) (nI k) (mh m h σ) = k2 m (nI f) (bI (itr (tf1 fs f) k c p).2) (mh m h σ') ∧ RK σ0 σ' (itr (tf1 fs f) k c p).1 ∧ BK fs (itr (tf1 fs f) k c p).1 ∧ RF σ' fs ∧ FR tkI [] tkA [30] σ σ' := by
  intro c
  induction c with
  | zero =>
    intro k g σ p hk hg hr hR hb
    obtain ⟨g, rfl⟩ : ∃ x, g = x + 1 := ⟨g - 1, by omega⟩
    obtain ⟨r1, r2, r3, r4⟩ := RF_row hr hx hl
    refine ⟨σ, ?_, hR, hb, hr, FR_refl σ⟩
    unfold f_M_takeFrom_18 f_M_takeFrom_106
    rw [Mr8 hm, bs, Ma8 hm r3, bs, r1, if_pos (nI_le (by omega) (by omega))]
    rfl
  | succ c ih =>
    intro k g σ p hk hg hr hR hb
    obtain ⟨g, rfl⟩ : ∃ x, g = x + 1 := ⟨g - 1, by omega⟩
    obtain ⟨r1, r2, r3, r4⟩ := RF_row hr hx hl
    have hob := obAt_none (k := k) hr hx hl (by omega)
    unfold f_M_takeFrom_18 f_M_takeFrom_106
    rw [Mr8 hm, bs, Ma8 hm r3, bs, r1]
    by_cases c1 : l.length ≤ k
    · rw [if_pos (nI_le (by omega) (by omega))]
      have e : itr (tf1 fs f) k (c + 1) p = p := by
        refine itr_idr (c + 1) k (fun j h1 h2 => ?_)
        have := obAt_none (k := j) hr hx hl (by omega)
        unfold tf1
        rw [this, List.getElem?_eq_none (by omega)]
        split <;> rfl
      rw [e]
      exact ⟨σ, rfl, hR, hb, hr, FR_refl σ⟩
    · rw [if_neg (nI_ge (by omega) (by omega)), Mg13 hm, bs, hR.1]
      have han := hb.1
      by_cases c2 : p.1.1.1 = 1
      · rw [if_pos (by rw [c2])]
        have e : itr (tf1 fs f) k (c + 1) p = p := itr_id (fun i => tf1_1 c2) (c + 1) k
        rw [e]
        exact ⟨σ, rfl, hR, hb, hr, FR_refl σ⟩
      · rw [if_neg (fun q => c2 ((nI_eq (by omega) (by decide)).mp q))]
        obtain ⟨y, hy⟩ : ∃ y, l[k]? = some y := ⟨l[k]'(by omega), List.getElem?_eq_getElem (by omega)⟩
        rw [hy] at hob
        have hob : obAt fs (8 * f + k) = some (8192 * f + y.1, y.2.1, sub x.2 y.1 y.2.1, y.2.2) := hob
        obtain ⟨o1, o2, o3, o4, o5, o6, o7⟩ := RF_ob hr hob
        have hst : tf1 fs f k p = if y.2.2 = true ∨ 8 * f + k ∈ p.1.2.2.1 then p else match hpf (hp1 (sub x.2 y.1 y.2.1) p.1.1.2.1) 1 (oM (sub x.2 y.1 y.2.1) - 1) with
            | none => p
            | some i => (tkM (sub x.2 y.1 y.2.1) (8 * f + k) (p.1.1, p.1.2.1, p.1.2.2.1, fun x => if x = 8 * f + k then some i else p.1.2.2.2 x), true) := by
          unfold tf1
          rw [if_neg c2, hob]
        generalize hB : sub x.2 y.1 y.2.1 = B at *
        have step : ∀ σ1 p1, FR tkI [] tkA [30] σ σ1 → RK σ0 σ1 p1.1 → BK fs p1.1 → tf1 fs f k p = p1 → ∃ σ', f_M_takeFrom_18 F k2 g m (nI f) (bI p1.2) (nI (k + 1)) (mh m h σ1) = k2 m (nI f) (bI (itr (tf1 fs f) k (c + 1) p).2) (mh m h σ') ∧ RK σ0 σ' (itr (tf1 fs f) k (c + 1) p).1 ∧ BK fs (itr (tf1 fs f) k (c + 1) p).1 ∧ RF σ' fs ∧ FR tkI [] tkA [30] σ σ' := by
          intro σ1 p1 a1 a2 a3 a4
          obtain ⟨σ', j1, j2, j3, j4, j5⟩ := ih (k + 1) g σ1 p1 (by omega) (by omega) (RF_FR hr a1 (by decide) (by decide)) a2 a3
          rw [itr_s, a4]
          exact ⟨σ', j1, j2, j3, j4, FR_trans a1 j5⟩
        unfold f_M_takeFrom_100
        rw [pk_mul, nI_add, Mr12 hm, bs, Ma12 hm o1, bs, o4, nI_add]
        cases es : y.2.2 with
        | true =>
          rw [if_neg (show ¬ bI true = 0 by decide)]
          exact step σ p (FR_refl σ) hR hb (by rw [hst, es, if_pos (Or.inl rfl)])
        | false =>
          rw [es] at hst o7 hob
          rw [if_pos (show bI false = 0 from rfl), Mr18 hm, bs, Ma18 hm o1, bs, hR.2.2.2.2.2.2.2.2.2.1 _ o1]
          by_cases c3 : 8 * f + k ∈ p.1.2.2.1
          · rw [decide_eq_true c3, if_neg (show ¬ bI true = 0 by decide)]
            exact step σ p (FR_refl σ) hR hb (by rw [hst, if_pos (Or.inr c3)])
          · rw [decide_eq_false c3, if_pos (show bI false = 0 from rfl), e_o hm, bs, q_helps hm hF (o7 rfl) o6 hr.2.2.1 o5 o1 o2 hR.2.1 hb.2.1, xb_mk]
            rw [if_neg (fun q => q.elim (fun q => nomatch q) c3)] at hst
            have hxl : p.1.1.2.1.length ≤ 4096 := by have := hR.2.1.1.2.1; rw [List.length_map] at this; exact this
            cases ep : hpf (hp1 B p.1.1.2.1) 1 (oM B - 1) with
            | none =>
              rw [ep] at hst
              rw [if_neg (show ¬ (0 : Int32) ≤ tdA none by decide)]
              exact step σ p (FR_refl σ) hR hb hst
            | some i =>
              rw [ep] at hst
              have hi := hpf_lt ep
              rw [show tdA (some i) = nI i from rfl, if_pos (nI_0le (by omega)), Mr40 hm, bs, Ms40 hm o1, bs, e_o hm, bs]
              have fa : FR tkI [] tkA [30] σ (sA σ 40 (upd (gA σ 40) (8 * f + k) (nI i))) := FR_mono (FR_A σ 40 _) (by decide) (by decide) (by decide) (by decide)
              have hR1 : RK σ0 (sA σ 40 (upd (gA σ 40) (8 * f + k) (nI i))) (p.1.1, p.1.2.1, p.1.2.2.1, fun x => if x = 8 * f + k then some i else p.1.2.2.2 x) := by
                refine RK_FR hR (FR_A σ 40 _) (by decide) (by decide) (by decide) (fun q hq => ?_)
                show upd (gA σ 40) (8 * f + k) (nI i) q = tdA (if q = 8 * f + k then some i else p.1.2.2.2 q)
                by_cases cq : q = 8 * f + k
                · rw [if_pos cq, cq, upd_eq]; rfl
                · rw [if_neg cq, upd_ne cq]; exact hR.2.2.2.2.2.2.2.2.2.2 q hq
              generalize sA σ 40 (upd (gA σ 40) (8 * f + k) (nI i)) = σ1 at *
              obtain ⟨σ2, t1, t2, t3, t4⟩ := q_takeK (F := F) (σ := σ1) (s := (p.1.1, p.1.2.1, p.1.2.2.1, fun x => if x = 8 * f + k then some i else p.1.2.2.2 x)) hm hF (RF_FR hr fa (by decide) (by decide)) hB0 hR1 hb hob c3
              rw [t1, xb_mk]
              exact step σ2 _ (FR_trans fa t4) t2 t3 hst
end MTG
def whl {α : Type} (st : α → Bool) (g : α → α × Bool) : Nat → α → α
  | 0, s => s
  | c + 1, s => if st s = true then s else if (g s).2 = true then whl st g c (g s).1 else (g s).1
theorem whl_s {α : Type} {st : α → Bool} {g : α → α × Bool} {c : Nat} {s : α} : whl st g (c + 1) s = if st s = true then s else if (g s).2 = true then whl st g c (g s).1 else (g s).1 := rfl
/-- one round over the members of file f -/
def rdF (fs : px_FS) (f : Nat) (s : px_TK) : px_TK × Bool := itr (tf1 fs f) 0 8 (s, false)
def tfS (s : px_TK) : Bool := decide (s.1.1 = 1)
/-- the members that are needed of file f -/
def tfL (fs : px_FS) (f c : Nat) (s : px_TK) : px_TK := whl tfS (rdF fs f) c s
/-- how many of file f are taken -/
def nuF (f : Nat) (s : px_TK) : Nat := (s.2.2.1.filter (fun q => decide (q / 8 = f))).length
theorem nuF_8 {fs : px_FS} {f : Nat} {s : px_TK} (hb : BK fs s) : nuF f s ≤ 8 := by
  refine nodup_le (8 * f) 8 _ (List.Pairwise.filter _ hb.2.2.2.2.2.1) (fun x hx => ?_)
  have := (List.mem_filter.mp hx).2
  have : x / 8 = f := of_decide_eq_true this
  omega
theorem tf1_cs {fs : px_FS} {f k : Nat} {p : px_TK × Bool} : tf1 fs f k p = p ∨ ∃ b ca, tf1 fs f k p = (tkM b (8 * f + k) (p.1.1, p.1.2.1, p.1.2.2.1, ca), true) := by
  unfold tf1
  split
  · exact Or.inl rfl
  · split
    · exact Or.inl rfl
    · split
      · exact Or.inl rfl
      · split
        · exact Or.inl rfl
        · exact Or.inr ⟨_, _, rfl⟩
theorem tf1_nu {fs : px_FS} {f k n0 : Nat} {p : px_TK × Bool} (hk : k < 8) (h : n0 ≤ nuF f p.1 ∧ (p.2 = true → n0 + 1 ≤ nuF f p.1)) : n0 ≤ nuF f (tf1 fs f k p).1 ∧ ((tf1 fs f k p).2 = true → n0 + 1 ≤ nuF f (tf1 fs f k p).1) := by
  rcases tf1_cs (fs := fs) (f := f) (k := k) (p := p) with e | ⟨b, ca, e⟩
  · rw [e]; exact h
  · rw [e]
    have e2 : nuF f (tkM b (8 * f + k) (p.1.1, p.1.2.1, p.1.2.2.1, ca)) = nuF f p.1 + 1 := by
      show ((p.1.2.2.1 ++ [8 * f + k]).filter _).length = _
      rw [List.filter_append, List.length_append]
      congr 1
      rw [List.filter_cons, if_pos (decide_eq_true (show (8 * f + k) / 8 = f by omega))]
      rfl
    dsimp only
    rw [e2]
    exact ⟨by omega, fun _ => by omega⟩
theorem rdF_nu {fs : px_FS} {f : Nat} {s : px_TK} (h : (rdF fs f s).2 = true) : nuF f s + 1 ≤ nuF f (rdF fs f s).1 :=
  (itr_inv (P := fun p : px_TK × Bool => nuF f s ≤ nuF f p.1 ∧ (p.2 = true → nuF f s + 1 ≤ nuF f p.1)) (a := 0) (e := 8) (fun _ _ _ hk hp => tf1_nu hk hp) 8 0 (s, false) (Nat.le_refl _) (Nat.le_refl _) ⟨Nat.le_refl _, fun q => nomatch q⟩).2 h
section MTH
variable {F m f : Nat} {h : px_H} {σ0 : px_S} {fs : px_FS}
theorem q_tF_2 (hm : m ≤ h.length) (hF : 65536 < F) (hB0 : ∀ k, isB (gA σ0 3 k)) {x : Nat × (Nat → Nat)} {l : List (Nat × Nat × Bool)} (hx : fs[f]? = some x) (hl : fMem x.2 x.1 = some l) : ∀ (d c g : Nat) (σ : px_S) (s : px_TK), 8 - nuF f s ≤ d → d < c → d + 1 < g → RF σ fs → RK σ0 σ s → BK fs s → ∃ σ', f_M_takeFrom_2 F g m (nI f) (bI true) (mh m h σ) = some ((), mh m h σ') ∧ RK σ0 σ' (tfL fs f c s) ∧ BK fs (tfL fs f c s) ∧ RF σ' fs ∧ FR tkI [] tkA [30] σ σ' := by
  intro d
  induction d with
  | zero =>
    intro c g σ s hd hc hg hr hR hb
    obtain ⟨g, rfl⟩ : ∃ x, g = x + 2 := ⟨g - 2, by omega⟩
    obtain ⟨c, rfl⟩ : ∃ x, c = x + 1 := ⟨c - 1, by omega⟩
    have han := hb.1
    unfold f_M_takeFrom_2 f_M_takeFrom_109
    rw [if_neg (show ¬ bI true = 0 by decide), Mg13 hm, bs, hR.1]
    unfold tfL
    rw [whl_s]
    by_cases c1 : s.1.1 = 1
    · rw [if_pos (by rw [c1]), if_pos (show tfS s = true from decide_eq_true c1)]
      exact ⟨σ, rfl, hR, hb, hr, FR_refl σ⟩
    · rw [if_neg (fun q => c1 ((nI_eq (by omega) (by decide)).mp q)), if_neg (show ¬ tfS s = true from fun q => c1 (of_decide_eq_true q))]
      obtain ⟨σ1, i1, i2, i3, i4, i5⟩ := q_tF_18 (F := F) (k2 := f_M_takeFrom_2 F (g + 1)) (σ0 := σ0) hm hF hB0 hx hl 8 0 F σ (s, false) (by omega) (by omega) hr hR hb
      rw [show itr (tf1 fs f) 0 8 (s, false) = rdF fs f s from rfl] at i1 i2 i3
      rw [show nI 0 = bI false from rfl]
      rw [show nI 0 = bI false from rfl] at i1
      rw [i1]
      have h8 := nuF_8 (f := f) hb
      have h8' := nuF_8 (f := f) i3
      cases e2 : (rdF fs f s).2 with
      | true =>
        have := rdF_nu e2
        omega
      | false =>
        rw [if_neg (by decide)]
        refine ⟨σ1, ?_, i2, i3, i4, i5⟩
        unfold f_M_takeFrom_2 f_M_takeFrom_109
        rw [if_pos (show bI false = 0 from rfl)]
  | succ d ih =>
    intro c g σ s hd hc hg hr hR hb
    obtain ⟨g, rfl⟩ : ∃ x, g = x + 2 := ⟨g - 2, by omega⟩
    obtain ⟨c, rfl⟩ : ∃ x, c = x + 1 := ⟨c - 1, by omega⟩
    have han := hb.1
    unfold f_M_takeFrom_2 f_M_takeFrom_109
    rw [if_neg (show ¬ bI true = 0 by decide), Mg13 hm, bs, hR.1]
    unfold tfL
    rw [whl_s]
    by_cases c1 : s.1.1 = 1
    · rw [if_pos (by rw [c1]), if_pos (show tfS s = true from decide_eq_true c1)]
      exact ⟨σ, rfl, hR, hb, hr, FR_refl σ⟩
    · rw [if_neg (fun q => c1 ((nI_eq (by omega) (by decide)).mp q)), if_neg (show ¬ tfS s = true from fun q => c1 (of_decide_eq_true q))]
      obtain ⟨σ1, i1, i2, i3, i4, i5⟩ := q_tF_18 (F := F) (k2 := f_M_takeFrom_2 F (g + 1)) (σ0 := σ0) hm hF hB0 hx hl 8 0 F σ (s, false) (by omega) (by omega) hr hR hb
      rw [show itr (tf1 fs f) 0 8 (s, false) = rdF fs f s from rfl] at i1 i2 i3
      rw [show nI 0 = bI false from rfl]
      rw [show nI 0 = bI false from rfl] at i1
      rw [i1]
      have h8 := nuF_8 (f := f) hb
      have h8' := nuF_8 (f := f) i3
      cases e2 : (rdF fs f s).2 with
      | true =>
        have := rdF_nu e2
        rw [if_pos rfl]
        obtain ⟨σ2, j1, j2, j3, j4, j5⟩ := ih c (g + 1) σ1 (rdF fs f s).1 (by omega) (by omega) (by omega) i4 i2 i3
        exact ⟨σ2, j1, j2, j3, j4, FR_trans i5 j5⟩
      | false =>
        rw [if_neg (by decide)]
        refine ⟨σ1, ?_, i2, i3, i4, i5⟩
        unfold f_M_takeFrom_2 f_M_takeFrom_109
        rw [if_pos (show bI false = 0 from rfl)]
theorem q_takeFrom {σ : px_S} {s : px_TK} (hm : m ≤ h.length) (hF : 65536 < F) (hB0 : ∀ k, isB (gA σ0 3 k)) {x : Nat × (Nat → Nat)} {l : List (Nat × Nat × Bool)} (hx : fs[f]? = some x) (hl : fMem x.2 x.1 = some l) (hr : RF σ fs) (hR : RK σ0 σ s) (hb : BK fs s) : ∃ σ', f_M_takeFrom F m (nI f) (mh m h σ) = some ((), mh m h σ') ∧ RK σ0 σ' (tfL fs f 9 s) ∧ BK fs (tfL fs f 9 s) ∧ RF σ' fs ∧ FR tkI [] tkA [30] σ σ' :=
  q_tF_2 hm hF hB0 hx hl 8 9 F σ s (by omega) (by omega) (by omega) hr hR hb
end MTH
end
section
/-! takeAll of the reference -/
def ta1 (fs : px_FS) (f : Nat) (s : px_TK) : px_TK := if s.1.1 = 1 then s else match fs[f]? with
  | none => s
  | some x => if isAr x.2 x.1 = true then tfL fs f 9 s else tkM (sub x.2 0 x.1) (8 * f) s
theorem whl_inv {α : Type} {st : α → Bool} {g : α → α × Bool} {P : α → Prop} (h : ∀ s, P s → P (g s).1) : ∀ (c : Nat) (s : α), P s → P (whl st g c s) := by
  intro c
  induction c with
  | zero => intro s hs; exact hs
  | succ c ih =>
    intro s hs
    rw [whl_s]
    split
    · exact hs
    · split
      · exact ih _ (h s hs)
      · exact h s hs
def qLt (f : Nat) (s : px_TK) : Prop := ∀ q, q ∈ s.2.2.1 → q / 8 < f + 1
theorem tf1_q {fs : px_FS} {f k : Nat} {p : px_TK × Bool} (hk : k < 8) (h : qLt f p.1) : qLt f (tf1 fs f k p).1 := by
  rcases tf1_cs (fs := fs) (f := f) (k := k) (p := p) with e | ⟨b, ca, e⟩
  · rw [e]; exact h
  · rw [e]
    intro q hq
    have hq : q ∈ p.1.2.2.1 ++ [8 * f + k] := hq
    rcases List.mem_append.mp hq with hq | hq
    · exact h q hq
    · rw [List.mem_singleton.mp hq]; omega
theorem rdF_q {fs : px_FS} {f : Nat} {s : px_TK} (h : qLt f s) : qLt f (rdF fs f s).1 := by
  unfold rdF
  exact itr_inv (g := tf1 fs f) (P := fun p : px_TK × Bool => qLt f p.1) (a := 0) (e := 8) (fun k p _ hk hp => tf1_q hk hp) 8 0 (s, false) (Nat.le_refl _) (Nat.le_refl _) h
theorem tfL_q {fs : px_FS} {f c : Nat} {s : px_TK} (h : qLt f s) : qLt f (tfL fs f c s) := by
  unfold tfL
  exact whl_inv (st := tfS) (g := rdF fs f) (P := qLt f) (fun s hs => rdF_q hs) c s h
section MTL2
variable {F m : Nat} {h : px_H} {σ0 : px_S} {fs : px_FS}
theorem q_tA_2w (hm : m ≤ h.length) : ∀ (c k g : Nat) (σ : px_S), k + c = 64 → c < g → (∀ q, q < k → gA σ 18 q = bI false ∧ gA σ 40 q = tdA none) → ∃ σ', f_M_takeAll_2 F g m (nI k) (mh m h σ) = f_M_takeAll_28 F m (mh m h σ') ∧ (∀ q, q < 64 → gA σ' 18 q = bI false ∧ gA σ' 40 q = tdA none) ∧ FR [] [] [18, 40] [] σ σ' := by
  intro c
  induction c with
  | zero =>
    intro k g σ hk hg hq
    obtain ⟨g, rfl⟩ : ∃ x, g = x + 1 := ⟨g - 1, by omega⟩
    unfold f_M_takeAll_2
    rw [if_pos (nI_le (by omega) (by omega))]
    exact ⟨σ, rfl, fun q h1 => hq q (by omega), FR_refl σ⟩
  | succ c ih =>
    intro k g σ hk hg hq
    obtain ⟨g, rfl⟩ : ∃ x, g = x + 1 := ⟨g - 1, by omega⟩
    unfold f_M_takeAll_2
    rw [if_neg (nI_ge (by omega) (by omega)), Mr18 hm, bs, show nI 0 &&& 1 = bI false from rfl, Ms18 hm (by omega), bs, Mr40 hm, bs, Ms40 hm (by omega), bs, nI_add]
    obtain ⟨σ1, hσ1⟩ : ∃ x, x = sA (sA σ 18 (upd (gA σ 18) k (bI false))) 40 (upd (gA (sA σ 18 (upd (gA σ 18) k (bI false))) 40) k (Int32.ofInt (-1))) := ⟨_, rfl⟩
    have f1 : FR [] [] [18, 40] [] σ σ1 := by
      rw [hσ1]
      exact FR_trans (FR_mono (FR_A σ 18 _) (by decide) (by decide) (by decide) (by decide)) (FR_mono (FR_A _ 40 _) (by decide) (by decide) (by decide) (by decide))
    rw [← hσ1]
    obtain ⟨σ2, j1, j2, j3⟩ := ih (k + 1) g σ1 (by omega) (by omega) (fun q hq2 => by
      have e18 : gA σ1 18 = upd (gA σ 18) k (bI false) := by rw [hσ1]; rfl
      have e40 : gA σ1 40 = upd (gA σ 40) k (Int32.ofInt (-1)) := by rw [hσ1]; rfl
      rw [e18, e40]
      by_cases c1 : q = k
      · rw [c1, upd_eq, upd_eq]; exact ⟨rfl, rfl⟩
      · rw [upd_ne c1, upd_ne c1]; exact hq q (by omega))
    exact ⟨σ2, j1, j2, FR_trans f1 j3⟩
theorem q_tA_30w (hm : m ≤ h.length) {N : Nat} (hN : N ≤ 8) : ∀ (c k g : Nat) (σ : px_S), k + c = N → c < g → gI σ 5 = nI N → (∀ q, q < k → gA σ 19 q = bI true) → ∃ σ', f_M_takeAll_30 F g m (nI k) (mh m h σ) = f_M_takeAll_51 F m (mh m h σ') ∧ (∀ q, q < N → gA σ' 19 q = bI true) ∧ FR [] [] [19] [] σ σ' := by
  intro c
  induction c with
  | zero =>
    intro k g σ hk hg h5 hq
    obtain ⟨g, rfl⟩ : ∃ x, g = x + 1 := ⟨g - 1, by omega⟩
    unfold f_M_takeAll_30
    rw [Mg5 hm, bs, h5, if_pos (nI_le (by omega) (by omega))]
    exact ⟨σ, rfl, fun q h1 => hq q (by omega), FR_refl σ⟩
  | succ c ih =>
    intro k g σ hk hg h5 hq
    obtain ⟨g, rfl⟩ : ∃ x, g = x + 1 := ⟨g - 1, by omega⟩
    unfold f_M_takeAll_30
    rw [Mg5 hm, bs, h5, if_neg (nI_ge (by omega) (by omega)), Mr19 hm, bs, show nI 1 &&& 1 = bI true from rfl, Ms19 hm (by omega), bs, nI_add]
    obtain ⟨σ2, j1, j2, j3⟩ := ih (k + 1) g (sA σ 19 (upd (gA σ 19) k (bI true))) (by omega) (by omega) h5 (fun q hq2 => by
      show upd (gA σ 19) k (bI true) q = _
      by_cases c1 : q = k
      · rw [c1, upd_eq]
      · rw [upd_ne c1]; exact hq q (by omega))
    exact ⟨σ2, j1, j2, FR_trans (FR_A σ 19 _) j3⟩
theorem q_tA_53w (hm : m ≤ h.length) (hF : 65536 < F) (hB0 : ∀ k, isB (gA σ0 3 k)) : ∀ (c f g : Nat) (σ : px_S) (s : px_TK), f + c = 8 → c < g → RF σ fs → RK σ0 σ s → BK fs s → (∀ q, q ∈ s.2.2.1 → q / 8 < f) → ∃ σ', f_M_takeAll_53 F g m (nI f) (mh m h σ) = some ((), mh m h σ') ∧ RK σ0 σ' (itr (ta1 fs) f c s) ∧ BK fs (itr (ta1 fs) f c s) ∧ RF σ' fs ∧ FR tkI [] tkA [30] σ σ' := by
  intro c
  induction c with
  | zero =>
    intro f g σ s hf hg hr hR hb hq
    obtain ⟨g, rfl⟩ : ∃ x, g = x + 1 := ⟨g - 1, by omega⟩
    have h8 := hr.2.1
    unfold f_M_takeAll_53 f_M_takeAll_100
    rw [Mg5 hm, bs, hr.1, if_pos (nI_le (by omega) (by omega))]
    exact ⟨σ, rfl, hR, hb, hr, FR_refl σ⟩
  | succ c ih =>
    intro f g σ s hf hg hr hR hb hq
    obtain ⟨g, rfl⟩ : ∃ x, g = x + 1 := ⟨g - 1, by omega⟩
    have h8 := hr.2.1
    unfold f_M_takeAll_53 f_M_takeAll_100
    rw [Mg5 hm, bs, hr.1]
    by_cases c1 : fs.length ≤ f
    · rw [if_pos (nI_le (by omega) (by omega))]
      have e : itr (ta1 fs) f (c + 1) s = s := by
        refine itr_idr (c + 1) f (fun j h1 h2 => ?_)
        unfold ta1
        rw [List.getElem?_eq_none (by omega)]
        split <;> rfl
      rw [e]
      exact ⟨σ, rfl, hR, hb, hr, FR_refl σ⟩
    · rw [if_neg (nI_ge (by omega) (by omega)), Mg13 hm, bs, hR.1]
      have han := hb.1
      by_cases c2 : s.1.1 = 1
      · rw [if_pos (by rw [c2])]
        have e : itr (ta1 fs) f (c + 1) s = s := itr_id (fun i => by unfold ta1; rw [if_pos c2]) (c + 1) f
        rw [e]
        exact ⟨σ, rfl, hR, hb, hr, FR_refl σ⟩
      · rw [if_neg (fun q => c2 ((nI_eq (by omega) (by decide)).mp q))]
        obtain ⟨x, hx⟩ : ∃ x, fs[f]? = some x := ⟨fs[f]'(by omega), List.getElem?_eq_getElem (by omega)⟩
        obtain ⟨l, hl⟩ : ∃ l, fMem x.2 x.1 = some l := by
          obtain ⟨_, _, _, _, l, a5, _⟩ := hr.2.2.2 f x hx
          exact ⟨l, a5⟩
        obtain ⟨r1, r2, r3, r4⟩ := RF_row hr hx hl
        have hst : ta1 fs f s = if isAr x.2 x.1 = true then tfL fs f 9 s else tkM (sub x.2 0 x.1) (8 * f) s := by
          unfold ta1
          rw [if_neg c2, hx]
        have step : ∀ σ1 s1, RF σ1 fs → FR tkI [] tkA [30] σ σ1 → RK σ0 σ1 s1 → BK fs s1 → (∀ q, q ∈ s1.2.2.1 → q / 8 < f + 1) → ta1 fs f s = s1 → ∃ σ', f_M_takeAll_53 F g m (nI (f + 1)) (mh m h σ1) = some ((), mh m h σ') ∧ RK σ0 σ' (itr (ta1 fs) f (c + 1) s) ∧ BK fs (itr (ta1 fs) f (c + 1) s) ∧ RF σ' fs ∧ FR tkI [] tkA [30] σ σ' := by
          intro σ1 s1 a0 a1 a2 a3 a4 a5
          obtain ⟨σ', j1, j2, j3, j4, j5⟩ := ih (f + 1) g σ1 s1 (by omega) (by omega) a0 a2 a3 a4
          rw [itr_s, a5]
          exact ⟨σ', j1, j2, j3, j4, FR_trans a1 j5⟩
        unfold f_M_takeAll_94
        rw [Mr11 hm, bs, Ma11 hm r3, bs, r4, nI_add]
        cases ea : isAr x.2 x.1 with
        | true =>
          rw [ea, if_pos rfl] at hst
          rw [if_neg (show ¬ bI true = 0 by decide), e_o hm, bs]
          obtain ⟨σ1, t1, t2, t3, t4, t5⟩ := q_takeFrom (F := F) (σ := σ) (s := s) hm hF hB0 hx hl hr hR hb
          rw [t1, xb_mk]
          exact step σ1 _ t4 t5 t2 t3 (tfL_q (fun q hq' => by have := hq q hq'; omega)) hst
        | false =>
          rw [ea, if_neg (by decide)] at hst
          have hl2 : fMem x.2 x.1 = some [(0, x.1, false)] := by unfold fMem; rw [ea, if_neg (by decide)]
          have hob := obAt_none (k := 0) hr hx hl2 (by omega)
          have hob : obAt fs (8 * f) = some (8192 * f + 0, x.1, sub x.2 0 x.1, false) := hob
          rw [if_pos (show bI false = 0 from rfl), e_o hm, bs, pk_mul]
          obtain ⟨σ1, t1, t2, t3, t4⟩ := q_takeK (F := F) (σ := σ) (s := s) hm hF hr hB0 hR hb hob (fun q => by have := hq _ q; omega)
          rw [t1, xb_mk]
          refine step σ1 _ (RF_FR hr t4 (by decide) (by decide)) t4 t2 t3 (fun q hq2 => ?_) hst
          have hq2 : q ∈ s.2.2.1 ++ [8 * f] := hq2
          rcases List.mem_append.mp hq2 with hq2 | hq2
          · have := hq q hq2; omega
          · rw [List.mem_singleton.mp hq2]; omega
/-- all that is taken, from what was told -/
def taL (fs : px_FS) (xs : px_NL) (od : List Nat) : px_TK := itr (ta1 fs) 0 8 ((0, xs, od, none), (fun _ => false, 0, []), [], fun _ => none)
theorem q_takeAll {σ : px_S} {xs : px_NL} {od : List Nat} (hm : m ≤ h.length) (hF : 65536 < F) (hr : RF σ fs) (hB3 : ∀ k, isB (gA σ 3 k)) (h13 : gI σ 13 = nI 0) (hR : RL σ xs) (hok : okL xs) (hxl : xs.length ≤ 32) (ho : RO σ od) (hol : od.length ≤ 32) (hd : RDr σ (fun _ => false)) (h69 : gI σ 69 = nI 0) (h70 : gI σ 70 = nI 0) (h14 : gI σ 14 = nI 0) : ∃ σ', f_M_takeAll F m (mh m h σ) = some ((), mh m h σ') ∧ RK σ σ' (taL fs xs od) ∧ BK fs (taL fs xs od) ∧ RF σ' fs ∧ (∀ q, q < fs.length → gA σ' 19 q = bI true) ∧ FR tkI [] (19 :: tkA) [30] σ σ' := by
  obtain ⟨σ1, a1, a2, a3⟩ := q_tA_2w (F := F) (h := h) hm 64 0 F σ (by omega) (by omega) (fun q hq => absurd hq (Nat.not_lt_zero q))
  have hr1 := RF_FR hr a3 (by decide) (by decide)
  obtain ⟨σ2, c1, c2, c3⟩ := q_tA_30w (F := F) (h := h) (N := fs.length) hm hr.2.1 fs.length 0 F σ1 (by omega) (by have := hr.2.1; omega) hr1.1 (fun q hq => absurd hq (Nat.not_lt_zero q))
  have hr2 := RF_FR hr1 c3 (by decide) (by decide)
  have f12 : FR [] [] [18, 40, 19] [] σ σ2 := FR_trans (FR_mono a3 (by decide) (by decide) (by decide) (by decide)) (FR_mono c3 (by decide) (by decide) (by decide) (by decide))
  have hk : RK σ σ2 ((0, xs, od, none), (fun _ => false, 0, []), [], fun _ => none) := by
    refine ⟨(f12.1 13 (by decide)).trans h13, RL_FR hR f12 (by decide) (by decide) (by decide), RO_FR ho f12 (by decide) (by decide), ⟨fun _ => ⟨f12.1 4 (by decide), f12.2.2.1 3 (by decide)⟩, fun w hw => nomatch hw⟩, ?_, (f12.1 69 (by decide)).trans h69, ⟨(f12.1 70 (by decide)).trans h70, Nat.zero_le _, fun i w hw => ?_⟩, (f12.1 14 (by decide)).trans h14, fun i q hq => ?_, fun q hq => ?_, fun q hq => ?_⟩
    · intro i hi
      rw [f12.2.2.1 65 (by decide)]; exact hd i hi
    · rw [List.getElem?_nil] at hw; cases hw
    · have hq : ([] : List Nat)[i]? = some q := hq
      rw [List.getElem?_nil] at hq; cases hq
    · rw [c3.2.2.1 18 (by decide), (a2 q hq).1]
      show bI false = bI (decide (q ∈ ([] : List Nat)))
      rw [decide_eq_false (List.not_mem_nil)]
    · rw [c3.2.2.1 40 (by decide), (a2 q hq).2]
  have hb : BK fs ((0, xs, od, none), (fun _ => false, 0, []), [], fun _ => none) := ⟨Nat.zero_le _, hok, by show xs.length ≤ 32 + 63 * 0; omega, by show od.length ≤ 32 + 63 * 0; omega, Nat.zero_le _, List.nodup_nil, fun q hq => absurd hq List.not_mem_nil⟩
  obtain ⟨σ3, d1, d2, d3, d4, d5⟩ := q_tA_53w (F := F) (h := h) (σ0 := σ) hm hF hB3 8 0 F σ2 _ (by omega) (by omega) hr2 hk hb (fun q hq => absurd hq List.not_mem_nil)
  refine ⟨σ3, ?_, d2, d3, d4, fun q hq => ?_, FR_trans (FR_mono f12 (by decide) (by decide) (by decide) (by decide)) (FR_mono d5 (by decide) (by decide) (by decide) (by decide))⟩
  · unfold f_M_takeAll
    rw [a1]
    unfold f_M_takeAll_28
    rw [c1]
    exact d1
  · rw [d5.2.2.1 19 (by decide)]; exact c2 q hq
end MTL2
end
section
/-! start, ownNames of the reference -/
abbrev wST : List Nat := [95, 115, 116, 97, 114, 116]
abbrev wO1 : List Nat := [95, 101, 116, 101, 120, 116]
abbrev wO2 : List Nat := [95, 101, 100, 97, 116, 97]
abbrev wO3 : List Nat := [95, 95, 98, 115, 115, 95, 115, 116, 97, 114, 116]
abbrev wO4 : List Nat := [95, 101, 110, 100]
/-- the constant texts -/
def RC (σ : px_S) : Prop := srcT (gA σ 116) 0 wST ∧ srcT (gA σ 97) 0 wO1 ∧ srcT (gA σ 97) 6 wO2 ∧ srcT (gA σ 97) 12 wO3 ∧ srcT (gA σ 97) 23 wO4
theorem RC_FR {σ σ' : px_S} {I J A B : List Nat} (h : RC σ) (f : FR I J A B σ σ') (h1 : 116 ∉ A) (h2 : 97 ∉ A) : RC σ' := by
  unfold RC
  rw [f.2.2.1 116 h1, f.2.2.1 97 h2]
  exact h
def stN (xs : px_NL) (i : Nat) : Nat := (xs.getD i ([], nr0)).2.1
theorem stN_at {xs : px_NL} {i : Nat} {x : List Nat × px_NR} (h : xs[i]? = some x) : stN xs i = x.2.1 := by
  unfold stN
  rw [List.getD_eq_getElem?_getD, h]
  rfl
/-- the name w, if it is there and has a definition -/
def dfI (w : List Nat) (xs : px_NL) : Option Nat := match idx w 0 (xs.map Prod.fst) with
  | none => none
  | some i => if stN xs i = 0 then none else some i
/-- own name k: w -/
def own1 (k : Nat) (w : List Nat) (xs : px_NL) : px_NL := match idx w 0 (xs.map Prod.fst) with
  | none => xs
  | some i => if stN xs i = 0 then setR xs i (fun r => (4, r.2.1, k, r.2.2.2)) else xs
def ownL (xs : px_NL) : px_NL := own1 4 wO4 (own1 3 wO3 (own1 2 wO2 (own1 1 wO1 xs)))
theorem setR_fst {xs : px_NL} {i : Nat} {f : px_NR → px_NR} : (setR xs i f).map Prod.fst = xs.map Prod.fst := by
  unfold setR
  cases e : xs[i]? with
  | none => rfl
  | some x =>
    show (xs.set i (x.1, f x.2)).map Prod.fst = _
    rw [List.map_set]
    apply List.ext_getElem?
    intro j
    by_cases c : i = j
    · rw [← c, List.getElem?_set_self (by rw [List.length_map]; exact (List.getElem?_eq_some_iff.mp e).1), List.getElem?_map, e]; rfl
    · rw [List.getElem?_set_ne c]
theorem own1_len {k : Nat} {w : List Nat} {xs : px_NL} : (own1 k w xs).length = xs.length := by
  unfold own1
  split
  · rfl
  · split
    · rw [setR_len]
    · rfl
theorem own1_ok {k : Nat} {w : List Nat} {xs : px_NL} (h : okL xs) : okL (own1 k w xs) := by
  unfold own1
  split
  · exact h
  · split
    · exact okL_setR h (fun r hr => ⟨Nat.le_refl 4, hr.2⟩)
    · exact h
theorem own1_fst {k : Nat} {w : List Nat} {xs : px_NL} : (own1 k w xs).map Prod.fst = xs.map Prod.fst := by
  unfold own1
  split
  · rfl
  · split
    · exact setR_fst
    · rfl
theorem ownL_fst {xs : px_NL} : (ownL xs).map Prod.fst = xs.map Prod.fst := by
  unfold ownL
  rw [own1_fst, own1_fst, own1_fst, own1_fst]
theorem ownL_ok {xs : px_NL} (h : okL xs) : okL (ownL xs) := own1_ok (own1_ok (own1_ok (own1_ok h)))
section MOW
variable {F m : Nat} {h : px_H} {xs : px_NL}
theorem q_start {σ : px_S} (hm : m ≤ h.length) (hF : 4096 < F) (hr : RL σ xs) (hok : okL xs) (hc : RC σ) : f_M_start F m (mh m h σ) = some (tdA (dfI wST xs), mh m h σ) := by
  have hf := q_find (F := F) (h := h) (σ := σ) (pa := m + 79) (p := 0) (w := wST) (M := 6) hm hF hr.1 (fun i hi => Ma116 hm hi) hc.1 (by decide) (by decide) (by decide)
  have hf : f_M_find F m (m + 79) (nI 0) (nI 6) (mh m h σ) = some (tdA (idx wST 0 (xs.map Prod.fst)), mh m h σ) := hf
  have hxl : xs.length ≤ 4096 := by have := hr.1.2.1; rw [List.length_map] at this; exact this
  unfold f_M_start f_M_start_29 f_M_start_30 dfI
  rw [Mr116 hm, bs, e_o hm, bs, hf, xb_mk]
  cases ei : idx wST 0 (xs.map Prod.fst) with
  | none => rw [if_pos (show tdA none < 0 from m1_neg)]; rfl
  | some i =>
    have hi := idx_lt ei
    rw [List.length_map] at hi
    obtain ⟨x, hx⟩ : ∃ x, xs[i]? = some x := ⟨xs[i]'(by omega), List.getElem?_eq_getElem (by omega)⟩
    have hx4 := (hok i x hx).1
    rw [if_neg (show ¬ tdA (some i) < 0 from nI_pos (by omega)), show tdA (some i) = nI i from rfl, Mr23 hm, bs, Ma23 hm (by omega), bs, (hr.2 i x hx).1]
    show _ = some (tdA (if stN xs i = 0 then none else some i), _)
    rw [stN_at hx]
    by_cases c : x.2.1 = 0
    · rw [c, if_pos (show nI 0 ≤ 0 by decide), if_pos rfl]; rfl
    · rw [if_neg (show ¬ nI x.2.1 ≤ 0 from nI_ge (a := 0) (by omega) (by omega)), if_neg c]; rfl
theorem q_oN_77 {k pe s0 : Nat} {w : List Nat} {k2 : Nat → Int32 → px_H → Option (Unit × px_H)} {σ : px_S} (hm : m ≤ h.length) (hF : 4096 < F) (hr : RL σ xs) (hok : okL xs) (hs : srcT (gA σ 97) s0 w) (hw : ∀ x, x ∈ w → x < 256) (hM : s0 + w.length = pe) (hpe : pe ≤ 27) : ∃ σ', f_M_ownNames_77 F k2 m (nI k) m (m + 66) (nI s0) (nI pe) (mh m h σ) = k2 m (nI (k + 1)) (mh m h σ') ∧ RL σ' (own1 k w xs) ∧ FR [] [] [23, 73] [] σ σ' := by
  have hf := q_find (F := F) (h := h) (σ := σ) (pa := m + 66) (p := s0) (w := w) (M := 27) hm hF hr.1 (fun i hi => Ma97 hm hi) hs hw (by omega) (by decide)
  rw [hM] at hf
  have hxl : xs.length ≤ 4096 := by have := hr.1.2.1; rw [List.length_map] at this; exact this
  unfold f_M_ownNames_77 f_M_ownNames_111 own1
  rw [e_o hm, bs, hf, xb_mk, nI_add]
  cases ei : idx w 0 (xs.map Prod.fst) with
  | none =>
    rw [if_pos (show tdA none < 0 from m1_neg)]
    exact ⟨σ, rfl, hr, FR_refl σ⟩
  | some i =>
    have hi := idx_lt ei
    rw [List.length_map] at hi
    obtain ⟨x, hx⟩ : ∃ x, xs[i]? = some x := ⟨xs[i]'(by omega), List.getElem?_eq_getElem (by omega)⟩
    have hx4 := (hok i x hx).1
    have rr := hr.2 i x hx
    rw [if_neg (show ¬ tdA (some i) < 0 from nI_pos (by omega)), show tdA (some i) = nI i from rfl, Mr23 hm, bs, Ma23 hm (by omega), bs, rr.1]
    show ∃ σ', _ ∧ RL σ' (if stN xs i = 0 then setR xs i (fun r => (4, r.2.1, k, r.2.2.2)) else xs) ∧ _
    rw [stN_at hx]
    by_cases c : x.2.1 = 0
    · rw [c, if_pos (show nI 0 ≤ 0 by decide), if_pos rfl, bs, Ms23 hm (by omega), bs, Mr73 hm, bs, Ms73 hm (by omega), bs]
      obtain ⟨σ1, hσ1⟩ : ∃ s, s = sA (sA σ 23 (upd (gA σ 23) i (nI 4))) 73 (upd (gA (sA σ 23 (upd (gA σ 23) i (nI 4))) 73) i (nI k)) := ⟨_, rfl⟩
      rw [← hσ1]
      have f1 : FR [] [] [23, 73] [] σ σ1 := by
        rw [hσ1]
        exact FR_trans (FR_mono (FR_A σ 23 _) (by decide) (by decide) (by decide) (by decide)) (FR_mono (FR_A _ 73 _) (by decide) (by decide) (by decide) (by decide))
      have e23 : gA σ1 23 = upd (gA σ 23) i (nI 4) := by rw [hσ1]; rfl
      have e73 : gA σ1 73 = upd (gA σ 73) i (nI k) := by rw [hσ1]; rfl
      refine ⟨σ1, rfl, ?_, f1⟩
      have es : setR xs i (fun r => (4, r.2.1, k, r.2.2.2)) = xs.set i (x.1, (4, x.2.2.1, k, x.2.2.2.2)) := by unfold setR; rw [hx]
      rw [es]
      refine RL_set hr (w := x.1) (r := x.2) hx (f1.1 20 (by decide)) (f1.2.2.1 21 (by decide)) (f1.2.2.1 22 (by decide)) (fun q j hq hj => ?_) (fun j _ => by rw [f1.2.2.2 30 (by decide)]) ⟨?_, ?_, ?_, ?_, ?_, fun q => nomatch q⟩
      · rcases hq with e | e | e | e | e | e | e
        · rw [e, e23, upd_ne hj]
        · rw [e, f1.2.2.1 24 (by decide)]
        · rw [e, f1.2.2.1 25 (by decide)]
        · rw [e, f1.2.2.1 26 (by decide)]
        · rw [e, f1.2.2.1 27 (by decide)]
        · rw [e, f1.2.2.1 28 (by decide)]
        · rw [e, e73, upd_ne hj]
      · rw [e23, upd_eq]
      · rw [f1.2.2.1 28 (by decide)]; exact rr.2.1
      · rw [e73, upd_eq]
      · exact rBy_eq rr.2.2.2.1 (by rw [f1.2.2.1 24 (by decide)]) (by rw [f1.2.2.1 25 (by decide)])
      · rw [f1.2.2.2 30 (by decide)]; exact rr.2.2.2.2.1
    · rw [if_neg (show ¬ nI x.2.1 ≤ 0 from nI_ge (a := 0) (by omega) (by omega)), if_neg c]
      exact ⟨σ, rfl, hr, FR_refl σ⟩
theorem q_ownNames {σ : px_S} (hm : m ≤ h.length) (hF : 4096 < F) (hr : RL σ xs) (hok : okL xs) (hc : RC σ) : ∃ σ', f_M_ownNames F m (mh m h σ) = some ((), mh m h σ') ∧ RL σ' (ownL xs) ∧ FR [] [] [23, 73] [] σ σ' := by
  obtain ⟨F1, hF1⟩ : ∃ x, F = x + 5 := ⟨F - 5, by omega⟩
  obtain ⟨σ1, a1, a2, a3⟩ := q_oN_77 (F := F) (k := 1) (pe := 6) (s0 := 0) (w := wO1) (k2 := f_M_ownNames_2 F (F1 + 4)) hm hF hr hok hc.2.1 (by decide) (by decide) (by decide)
  have hc1 := RC_FR hc a3 (by decide) (by decide)
  obtain ⟨σ2, b1, b2, b3⟩ := q_oN_77 (F := F) (k := 2) (pe := 12) (s0 := 6) (w := wO2) (k2 := f_M_ownNames_2 F (F1 + 3)) hm hF a2 (own1_ok hok) hc1.2.2.1 (by decide) (by decide) (by decide)
  have hc2 := RC_FR hc1 b3 (by decide) (by decide)
  obtain ⟨σ3, d1, d2, d3⟩ := q_oN_77 (F := F) (k := 3) (pe := 23) (s0 := 12) (w := wO3) (k2 := f_M_ownNames_2 F (F1 + 2)) hm hF b2 (own1_ok (own1_ok hok)) hc2.2.2.2.1 (by decide) (by decide) (by decide)
  have hc3 := RC_FR hc2 d3 (by decide) (by decide)
  obtain ⟨σ4, g1, g2, g3⟩ := q_oN_77 (F := F) (k := 4) (pe := 27) (s0 := 23) (w := wO4) (k2 := f_M_ownNames_2 F (F1 + 1)) hm hF d2 (own1_ok (own1_ok (own1_ok hok))) hc3.2.2.2.2 (by decide) (by decide) (by decide)
  refine ⟨σ4, ?_, g2, FR_trans a3 (FR_trans b3 (FR_trans d3 g3))⟩
  have e1 : f_M_ownNames F m (mh m h σ) = f_M_ownNames_2 F (F1 + 5) m (nI 1) (mh m h σ) := by unfold f_M_ownNames; rw [← hF1]
  rw [e1]
  unfold f_M_ownNames_2 f_M_ownNames_38
  rw [if_neg (by decide), if_pos rfl, Mr97 hm, bs, if_pos rfl, a1]
  unfold f_M_ownNames_2 f_M_ownNames_38
  rw [if_neg (by decide), if_neg (by decide), if_pos rfl, Mr97 hm, bs, if_neg (by decide), if_pos rfl, b1]
  unfold f_M_ownNames_2 f_M_ownNames_38
  rw [if_neg (by decide), if_neg (by decide), if_neg (by decide), if_pos rfl, Mr97 hm, bs, if_neg (by decide), if_neg (by decide), if_pos rfl, d1]
  unfold f_M_ownNames_2 f_M_ownNames_38
  rw [if_neg (by decide), if_neg (by decide), if_neg (by decide), if_neg (by decide), Mr97 hm, bs, if_neg (by decide), if_neg (by decide), if_neg (by decide), g1]
  unfold f_M_ownNames_2 f_M_ownNames_117
  rw [if_pos (by decide)]
end MOW
end
section
/-! look2 of the reference -/
/-- one of c, from k on -/
def ex1 (g : Nat → Bool) : Nat → Nat → Bool
  | _, 0 => false
  | k, c + 1 => g k || ex1 g (k + 1) c
theorem ex1_s {g : Nat → Bool} {k c : Nat} : ex1 g k (c + 1) = (g k || ex1 g (k + 1) c) := rfl
theorem ex1_iff {g : Nat → Bool} : ∀ {c k : Nat}, ex1 g k c = true ↔ ∃ i, k ≤ i ∧ i < k + c ∧ g i = true := by
  intro c
  induction c with
  | zero => intro k; exact ⟨fun q => (nomatch q), fun ⟨i, h1, h2, _⟩ => by omega⟩
  | succ c ih =>
    intro k
    rw [ex1_s, Bool.or_eq_true, ih]
    constructor
    · rintro (q | ⟨i, h1, h2, h3⟩)
      · exact ⟨k, Nat.le_refl _, by omega, q⟩
      · exact ⟨i, by omega, by omega, h3⟩
    · rintro ⟨i, h1, h2, h3⟩
      by_cases e : i = k
      · exact Or.inl (e ▸ h3)
      · exact Or.inr ⟨i, by omega, by omega, h3⟩
theorem nI_self (y : Int32) : nI y.toBitVec.toNat = y := by
  apply Int32.toBitVec_inj.mp
  show BitVec.ofNat 32 y.toBitVec.toNat = _
  exact BitVec.eq_of_toNat_eq (by rw [BitVec.toNat_ofNat]; exact Nat.mod_eq_of_lt y.toBitVec.isLt)
theorem isB_8 (y : Int32) : isB y.toInt8.toInt32 := by
  rw [← nI_self y, toInt8_mod]
  exact isB_n8 _ (Nat.mod_lt _ (by decide))
/-- a name is told: answer 2, OUT -/
def LK (σ σ' : px_S) : Prop := gI σ' 13 = nI 2 ∧ FR [4, 13] [] [3] [] σ σ' ∧ (∀ k, isB (gA σ' 3 k)) ∧ ∃ n, n ≤ 20 ∧ gI σ' 4 = nI n
/-- symbol k of object t is missed -/
def lkY (dr : Nat → Bool) (xs : px_NL) (t : Nat) (b : Nat → Nat) (k : Nat) : Bool := decide (yB b k = 1) && (decide (wNo dr t b k = 0) && decide (stN xs (plc (yT b k) (xs.map Prod.fst)) = 0))
def lkT (fs : px_FS) (s : px_TK) (xs : px_NL) (t : Nat) : Bool := match s.2.2.1[t]? with
  | none => false
  | some q => match obAt fs q with
    | none => false
    | some y => ex1 (lkY s.2.1.1 xs t y.2.2.1) 1 (oM y.2.2.1 - 1)
def lkW (ws : List (List Nat)) (xs : px_NL) (w : Nat) : Bool := decide (stN xs (plc (ws.getD w []) (xs.map Prod.fst)) = 0)
/-- a name is left without a definition -/
def lkA (fs : px_FS) (ws : List (List Nat)) (s : px_TK) (xs : px_NL) : Bool := ex1 (lkW ws xs) 0 ws.length || (ex1 (lkT fs s xs) 0 s.2.2.1.length || (dfI wST xs).isNone)
/-- the names of the objects taken are there -/
def nmI (fs : px_FS) (tq : List Nat) (xs : px_NL) : Prop := ∀ (t q o n : Nat) (b : Nat → Nat), tq[t]? = some q → obAt fs q = some (o, n, b, false) → ∀ k, 1 ≤ k → k < oM b → yB b k ≠ 0 → (idx (yT b k) 0 (xs.map Prod.fst)).isSome = true
section MLK
variable {F m : Nat} {h : px_H} {xs : px_NL} {fs : px_FS} {σ : px_S}
theorem q_blame {i : Nat} {x : List Nat × px_NR} (hm : m ≤ h.length) (hF : 20 < F) (hr : RL σ xs) (hx : xs[i]? = some x) (h3 : ∀ k, isB (gA σ 3 k)) : ∃ σ', (∀ {K : Unit → px_H → Option (Unit × px_H)}, ((xpI (mh m h σ) 12 13 m (nI 2)).bind fun ph12 => (xgR ph12 12 21 m).bind fun t13 => (xgR ph12 12 22 m).bind fun t14 => (xaI ph12 1 t14 (nI i)).bind fun t15 => (xo ph12 12 m).bind fun _ => xb (f_M_say F m t13 ((nI 20) * nI i) t15 ph12) K) = K () (mh m h σ')) ∧ LK σ σ' := by
  have hxl : xs.length ≤ 4096 := by have := hr.1.2.1; rw [List.length_map] at this; exact this
  have hi := (List.getElem?_eq_some_iff.mp hx).1
  have fr := FR_I σ 13 (nI 2)
  have hr1 : RL (sI σ 13 (nI 2)) xs := RL_FR hr fr (by decide) (by decide) (by decide)
  have g13 : gI (sI σ 13 (nI 2)) 13 = nI 2 := by rw [gI_sI, if_pos rfl]
  obtain ⟨ok, e1, e2⟩ := hr1.1.2.2 i x.1 (by rw [List.getElem?_map, hx]; rfl)
  have h31 : ∀ k, isB (gA (sI σ 13 (nI 2)) 3 k) := h3
  have hp : xpI (mh m h σ) 12 13 m (nI 2) = some (mh m h (sI σ 13 (nI 2))) := Mp13 hm _
  generalize sI σ 13 (nI 2) = σ1 at *
  have okl := ok.1
  obtain ⟨σ', a1, a2, a3, a4, a5, a6⟩ := q_say (F := F) (p := 20 * i) (pa := m + 13) (ks := 21) (M := 81920) hm (by omega) (fun σ i hi => Ma21 hm hi) (by decide) ok e2 (by omega) h31
  refine ⟨σ', fun {K} => ?_, ?_, ?_, a2.2.2.1, x.1.length, by omega, a2.1⟩
  · rw [hp, bs, Mr21 hm, bs, Mr22 hm, bs, Ma22 hm (by omega), bs, e1, e_o hm, bs, pk_mul, a1, xb_mk]
  · rw [a3 13 (by decide)]; exact g13
  · refine FR_trans (FR_mono fr (by decide) (by decide) (by decide) (by decide)) ⟨fun k hk => a3 k (fun e => hk (by rw [e]; decide)), fun k _ => a4 k, fun k hk => a5 k (fun e => hk (by rw [e]; decide)), fun k _ => a6 k⟩
theorem q_lk_203 (hm : m ≤ h.length) (h13 : gI σ 13 = nI 2) : f_M_look2_203 F m (mh m h σ) = some ((), mh m h σ) := by
  unfold f_M_look2_203 f_M_look2_217
  rw [Mg13 hm, bs, h13, if_neg (by decide)]
theorem q_lk_84n {g t : Nat} (hm : m ≤ h.length) (h13 : gI σ 13 = nI 2) : f_M_look2_84 F (g + 1) m (nI t) (mh m h σ) = some ((), mh m h σ) := by
  unfold f_M_look2_84
  rw [Mg14 hm, bs, Mg13 hm, bs, h13, q_lk_203 hm h13, if_neg (show ¬ nI 2 = 0 by decide)]
  split <;> rfl
theorem q_lk_2n {g t : Nat} (hm : m ≤ h.length) (hF : 0 < F) (h13 : gI σ 13 = nI 2) : f_M_look2_2 F (g + 1) m (nI t) (mh m h σ) = some ((), mh m h σ) := by
  obtain ⟨F1, hF1⟩ : ∃ x, F = x + 1 := ⟨F - 1, by omega⟩
  have e : f_M_look2_82 F m (mh m h σ) = some ((), mh m h σ) := by
    unfold f_M_look2_82
    rw [show f_M_look2_84 F F m = f_M_look2_84 F (F1 + 1) m by rw [← hF1]]
    exact q_lk_84n hm h13
  unfold f_M_look2_2
  rw [Mg32 hm, bs, Mg13 hm, bs, h13, e, if_neg (show ¬ nI 2 = 0 by decide)]
  split <;> rfl
theorem q_lk_107n {g g0 k o n t : Nat} {b : Nat → Nat} (hm : m ≤ h.length) (hF : 24 < F) (hB : ∀ k, isB (gA σ 6 k)) (hcb : cb (gA σ 6) o n = b) (hw : w2 b n) (hn : o + n ≤ 65536) (h13 : gI σ 13 = nI 2) : f_M_look2_107 F (f_M_look2_84 F (g0 + 1)) (g + 1) m (nI t) (nI o) (nI k) (mh m h σ) = some ((), mh m h σ) := by
  have hrk : rk (gA σ 6) o n := w1_rk (by rw [hcb]; exact hw.1) hn
  unfold f_M_look2_107 f_M_look2_197
  rw [e_o hm, bs, q_symbolMany (Mmb hm hB) (by omega) hrk (by rw [hcb]; exact hw.1.2.1.1) (by rw [hcb]; exact w2_z hw), xb_mk, Mg13 hm, bs, h13, if_neg (show ¬ nI 2 = 0 by decide), nI_add, q_lk_84n hm h13]
  split <;> rfl
theorem q_lk_107 {g0 o n t : Nat} {b : Nat → Nat} {dr : Nat → Bool} (hm : m ≤ h.length) (hF : 65536 < F) (hB : ∀ k, isB (gA σ 6 k)) (h3 : ∀ k, isB (gA σ 3 k)) (hcb : cb (gA σ 6) o n = b) (hw : w2 b n) (hn : o + n ≤ 65536) (hy : ∀ k, 1 ≤ k → k < oM b → yOK b k = true) (ht : RTa σ t o) (hd : RDr σ dr) (hr : RL σ xs) (hok : okL xs) (h13 : gI σ 13 = nI 0) (hnm : ∀ k, 1 ≤ k → k < oM b → yB b k ≠ 0 → (idx (yT b k) 0 (xs.map Prod.fst)).isSome = true) : ∀ (c k g : Nat), 1 ≤ k → c = oM b - k → k < 2 ^ 30 → c + 1 < g → ∃ σ', f_M_look2_107 F (f_M_look2_84 F (g0 + 1)) g m (nI t) (nI o) (nI k) (mh m h σ) = (if ex1 (lkY dr xs t b) k c = true then some ((), mh m h σ') else f_M_look2_84 F (g0 + 1) m (nI (t + 1)) (mh m h σ)) ∧ (ex1 (lkY dr xs t b) k c = true → LK σ σ') := by
  have hM := w2_M hw
  have hwc : w2 (cb (gA σ 6) o n) n := by rw [hcb]; exact hw
  have hrk : rk (gA σ 6) o n := w1_rk (by rw [hcb]; exact hw.1) hn
  have hsm := q_symbolMany (F := F) (h := mh m h σ) (m := m) (Mmb hm hB) (by omega) hrk (by rw [hcb]; exact hw.1.2.1.1) (by rw [hcb]; exact w2_z hw)
  rw [hcb] at hsm
  intro c
  induction c with
  | zero =>
    intro k g h1 hc hk hg
    obtain ⟨g, rfl⟩ : ∃ x, g = x + 1 := ⟨g - 1, by omega⟩
    refine ⟨σ, ?_, fun q => nomatch q⟩
    unfold f_M_look2_107 f_M_look2_197
    rw [e_o hm, bs, hsm, xb_mk, if_pos (nI_le (by omega) (by omega)), nI_add, if_neg (show ¬ ex1 (lkY dr xs t b) k 0 = true from fun q => nomatch q)]
  | succ c ih =>
    intro k g h1 hc hk hg
    obtain ⟨g, rfl⟩ : ∃ x, g = x + 2 := ⟨g - 2, by omega⟩
    have hkM : k < oM b := by omega
    have hyk := hy k h1 hkM
    have hbn := q_bind (F := F) (h := mh m h σ) (m := m) (k := k) (Mmb hm hB) (by omega) hrk (by rw [hcb]; exact hw.1.2.1.1) (by rw [hcb]; exact w2_y hw hkM)
    have hwn := q_whereNow (F := F) (k := k) (dr := dr) hm (by omega) hB hwc hn (by rw [hcb]; exact hkM) ht hd
    rw [hcb] at hbn hwn
    have hB15 : yB b k < 16 := by
      have := yB_lt (cb_lt (gA σ 6) o n) k
      rw [hcb] at this
      exact this
    have hW : wNo dr t b k < 65536 := by
      have := yW_2 (B := gA σ 6) (o := o) (n := n) (k := k)
      rw [hcb] at this
      unfold wNo
      split <;> omega
    have nx : lkY dr xs t b k = false → ∃ σ', f_M_look2_107 F (f_M_look2_84 F (g0 + 1)) (g + 1) m (nI t) (nI o) (nI (k + 1)) (mh m h σ) = (if ex1 (lkY dr xs t b) k (c + 1) = true then some ((), mh m h σ') else f_M_look2_84 F (g0 + 1) m (nI (t + 1)) (mh m h σ)) ∧ (ex1 (lkY dr xs t b) k (c + 1) = true → LK σ σ') := by
      intro e
      rw [ex1_s, e, Bool.false_or]
      exact ih (k + 1) (g + 1) (by omega) (by omega) (by omega) (by omega)
    unfold f_M_look2_107 f_M_look2_191
    rw [e_o hm, bs, hsm, xb_mk, if_neg (nI_ge (by omega) (by omega)), Mg13 hm, bs, h13, if_pos (show nI 0 = 0 from rfl), e_o hm, bs, hbn, xb_mk, nI_add]
    by_cases c1 : yB b k = 1
    · rw [if_pos (by rw [c1]), e_o hm, bs, hwn, xb_mk]
      by_cases c2 : wNo dr t b k = 0
      · obtain ⟨y1, y2, y3⟩ := yOK_n hyk (by omega)
        have hno := q_nameOf (F := F) (o := o) (n := n) (k := k) hm (by omega) hB hwc hn (by rw [hcb]; exact hkM) (by rw [hcb]; exact y2) hr
        rw [hcb] at hno
        have hsome := hnm k h1 hkM (by omega)
        have e0 : lkY dr xs t b k = decide (stN xs (plc (yT b k) (xs.map Prod.fst)) = 0) := by
          unfold lkY
          rw [decide_eq_true c1, decide_eq_true c2, Bool.true_and, Bool.true_and]
        have hexs : lkY dr xs t b k = true → ex1 (lkY dr xs t b) k (c + 1) = true := fun e => by rw [ex1_s, e, Bool.true_or]
        generalize ex1 (lkY dr xs t b) k (c + 1) = EX at *
        generalize lkY dr xs t b k = LY at *
        unfold plc at e0
        generalize yT b k = w at *
        obtain ⟨i, ei⟩ := Option.isSome_iff_exists.mp hsome
        have hi := idx_lt ei
        rw [List.length_map] at hi
        have hxl : xs.length ≤ 4096 := by have := hr.1.2.1; rw [List.length_map] at this; exact this
        obtain ⟨x, hx⟩ : ∃ x, xs[i]? = some x := ⟨xs[i]'(by omega), List.getElem?_eq_getElem (by omega)⟩
        have hx4 := (hok i x hx).1
        rw [ei] at hno e0
        rw [show (some i).getD (xs.map Prod.fst).length = i from rfl, stN_at hx] at e0
        rw [if_pos (by rw [c2]; rfl), e_o hm, bs, hno, xb_mk, show tdA (some i) = nI i from rfl, Mr23 hm, bs, Ma23 hm (by omega), bs, (hr.2 i x hx).1]
        by_cases c3 : x.2.1 = 0
        · obtain ⟨σ', b1, b2⟩ := q_blame (F := F) hm (by omega) hr hx h3
          rw [if_pos (by rw [c3]; decide), b1, hexs (by rw [e0]; exact decide_eq_true c3)]
          refine ⟨σ', ?_, fun _ => b2⟩
          rw [if_pos rfl]
          have g6 : gA σ' 6 = gA σ 6 := b2.2.1.2.2.1 6 (by decide)
          exact q_lk_107n (b := b) (n := n) hm (by omega) (by rw [g6]; exact hB) (by rw [g6]; exact hcb) hw hn b2.1
        · rw [if_neg (show ¬ nI x.2.1 ≤ 0 from nI_ge (a := 0) (by omega) (by omega))]
          exact nx (by rw [e0]; exact decide_eq_false c3)
      · rw [if_neg (show ¬ nI (wNo dr t b k) = 0 from fun q => c2 ((nI_eq (b := 0) (by omega) (by decide)).mp q))]
        exact nx (by unfold lkY; rw [decide_eq_false c2, Bool.false_and, Bool.and_false])
    · rw [if_neg (show ¬ nI (yB b k) = nI 1 from fun q => c1 ((nI_eq (by omega) (by decide)).mp q))]
      exact nx (by unfold lkY; rw [decide_eq_false c1, Bool.false_and])
theorem q_lk_84 {s : px_TK} {σ0 : px_S} (hm : m ≤ h.length) (hF : 65536 < F) (hfs : RF σ fs) (h3 : ∀ k, isB (gA σ 3 k)) (hb : BK fs s) (hd : RDr σ s.2.1.1) (h14 : gI σ 14 = nI s.2.2.1.length) (h17 : ∀ i q, s.2.2.1[i]? = some q → gA σ 17 i = nI q) (hr : RL σ xs) (hok : okL xs) (hc : RC σ) (h13 : gI σ 13 = nI 0) (hnm : nmI fs s.2.2.1 xs) : ∀ (c t g : Nat), t + c = s.2.2.1.length → c + 1 < g → ∃ σ', f_M_look2_84 F g m (nI t) (mh m h σ) = some ((), mh m h σ') ∧ ((ex1 (lkT fs s xs) t c || (dfI wST xs).isNone) = false → σ' = σ) ∧ ((ex1 (lkT fs s xs) t c || (dfI wST xs).isNone) = true → LK σ σ') := by
  have hT : s.2.2.1.length ≤ 64 := nodup_le 0 64 _ hb.2.2.2.2.2.1 (fun x hx => by have := (hb.2.2.2.2.2.2 x hx).1; omega)
  intro c
  induction c with
  | zero =>
    intro t g htc hg
    obtain ⟨g, rfl⟩ : ∃ x, g = x + 1 := ⟨g - 1, by omega⟩
    unfold f_M_look2_84 f_M_look2_203 f_M_look2_217
    rw [Mg14 hm, bs, h14, if_pos (nI_le (by omega) (by omega)), Mg13 hm, bs, h13, if_pos (show nI 0 = 0 from rfl), e_o hm, bs, q_start hm (by omega) hr hok hc, xb_mk]
    show ∃ σ', _ ∧ ((false || (dfI wST xs).isNone) = false → σ' = σ) ∧ ((false || (dfI wST xs).isNone) = true → LK σ σ')
    rw [Bool.false_or]
    cases ed : dfI wST xs with
    | some i =>
      have hi : i < 2 ^ 31 := by
        unfold dfI at ed
        split at ed
        · cases ed
        · rename_i ei
          split at ed
          · cases ed
          · have := idx_lt ei
            rw [List.length_map] at this
            have h2 := hr.1.2.1
            rw [List.length_map] at h2
            have := Option.some.inj ed
            omega
      rw [if_neg (show ¬ tdA (some i) < 0 from nI_pos hi)]
      exact ⟨σ, rfl, fun _ => rfl, fun q => nomatch q⟩
    | none =>
      rw [if_pos (show tdA none < 0 from m1_neg), Mp13 hm, bs]
      obtain ⟨σ1, hσ1⟩ : ∃ x, x = sI σ 13 (nI 2) := ⟨_, rfl⟩
      have f1 : FR [13] [] [] [] σ σ1 := by rw [hσ1]; exact FR_I σ 13 _
      have e13 : gI σ1 13 = nI 2 := by rw [hσ1, gI_sI, if_pos rfl]
      rw [← hσ1]
      have lp : ∀ (c k g : Nat) (σ2 : px_S), k + c = 6 → c < g → FR [13] [] [3] [] σ σ2 → gI σ2 13 = nI 2 → (∀ k, isB (gA σ2 3 k)) → ∃ σ', f_M_look2_225 F g m (nI k) (mh m h σ2) = some ((), mh m h σ') ∧ LK σ σ' := by
        intro c
        induction c with
        | zero =>
          intro k g σ2 hk hg a1 a2 a3
          obtain ⟨g, rfl⟩ : ∃ x, g = x + 1 := ⟨g - 1, by omega⟩
          unfold f_M_look2_225 f_M_look2_249
          rw [if_pos (nI_le (by omega) (by omega)), Mp4 hm, bs]
          refine ⟨_, rfl, ?_, FR_trans (FR_mono a1 (by decide) (by decide) (by decide) (by decide)) (FR_mono (FR_I σ2 4 _) (by decide) (by decide) (by decide) (by decide)), a3, 6, by decide, ?_⟩
          · rw [gI_sI, if_neg (by decide)]; exact a2
          · rw [gI_sI, if_pos rfl]
        | succ c ih =>
          intro k g σ2 hk hg a1 a2 a3
          obtain ⟨g, rfl⟩ : ∃ x, g = x + 1 := ⟨g - 1, by omega⟩
          unfold f_M_look2_225
          rw [if_neg (nI_ge (by omega) (by omega)), Mr3 hm, bs, Mr116 hm, bs, Ma116 hm (by omega), bs, Ms3 hm (by omega), bs, nI_add]
          refine ih (k + 1) g _ (by omega) (by omega) (FR_trans a1 (FR_mono (FR_A σ2 3 _) (by decide) (by decide) (by decide) (by decide))) a2 (fun q => ?_)
          show isB (upd (gA σ2 3) k _ q)
          by_cases cq : q = k
          · rw [cq, upd_eq]; exact isB_8 _
          · rw [upd_ne cq]; exact a3 q
      obtain ⟨σ', l1, l2⟩ := lp 6 0 F σ1 (by omega) (by omega) (FR_mono f1 (by decide) (by decide) (by decide) (by decide)) e13 (by rw [f1.2.2.1 3 (by decide)]; exact h3)
      exact ⟨σ', l1, fun q => (nomatch q), fun _ => l2⟩
  | succ c ih =>
    intro t g htc hg
    obtain ⟨g, rfl⟩ : ∃ x, g = x + 2 := ⟨g - 2, by omega⟩
    obtain ⟨q, hq⟩ : ∃ q, s.2.2.1[t]? = some q := ⟨s.2.2.1[t]'(by omega), List.getElem?_eq_getElem (by omega)⟩
    obtain ⟨hq64, o, n, b, hob⟩ := hb.2.2.2.2.2.2 q (List.mem_of_getElem? hq)
    obtain ⟨o1, o2, o3, o4, o5, o6, o7⟩ := RF_ob hfs hob
    obtain ⟨w, hy, hg'⟩ := eObj_0 (o7 rfl)
    have hta : RTa σ t o := ⟨by omega, q, hq64, h17 t q hq, o2⟩
    have hM := w2_M w
    obtain ⟨σ1, a1, a2⟩ := q_lk_107 (F := F) (g0 := g) (o := o) (n := n) (t := t) (dr := s.2.1.1) hm hF hfs.2.2.1 h3 o5 w o6 hy hta hd hr hok h13 (fun k h1 h2 h3 => hnm t q o n b hq hob k h1 h2 h3) (oM b - 1) 1 F (by omega) rfl (by decide) (by omega)
    have e1 : lkT fs s xs t = ex1 (lkY s.2.1.1 xs t b) 1 (oM b - 1) := by
      unfold lkT
      rw [hq]
      show (match obAt fs q with
        | none => false
        | some y => ex1 (lkY s.2.1.1 xs t y.2.2.1) 1 (oM y.2.2.1 - 1)) = _
      rw [hob]
    unfold f_M_look2_84
    rw [Mg14 hm, bs, h14, if_neg (nI_ge (by omega) (by omega)), Mg13 hm, bs, h13, if_pos (show nI 0 = 0 from rfl), e_o hm, bs, q_object hm hta, xb_mk, a1, ex1_s, e1]
    generalize ex1 (lkY s.2.1.1 xs t b) 1 (oM b - 1) = E at *
    cases E with
    | true =>
      rw [if_pos rfl]
      exact ⟨σ1, rfl, fun q => (nomatch q), fun _ => a2 rfl⟩
    | false =>
      rw [if_neg (by decide), Bool.false_or]
      exact ih (t + 1) (g + 1) (by omega) (by omega)
theorem q_look2 {s : px_TK} {σ0 : px_S} {ws : List (List Nat)} (hm : m ≤ h.length) (hF : 65536 < F) (hfs : RF σ fs) (h3 : ∀ k, isB (gA σ 3 k)) (hb : BK fs s) (hd : RDr σ s.2.1.1) (h14 : gI σ 14 = nI s.2.2.1.length) (h17 : ∀ i q, s.2.2.1[i]? = some q → gA σ 17 i = nI q) (hr : RL σ xs) (hok : okL xs) (hc : RC σ) (h13 : gI σ 13 = nI 0) (hnm : nmI fs s.2.2.1 xs) (hw : RW σ ws) (hwn : ∀ w, w ∈ ws → (idx w 0 (xs.map Prod.fst)).isSome = true) : ∃ σ', f_M_look2 F m (mh m h σ) = some ((), mh m h σ') ∧ (lkA fs ws s xs = false → σ' = σ) ∧ (lkA fs ws s xs = true → LK σ σ') := by
  have hT : s.2.2.1.length ≤ 64 := nodup_le 0 64 _ hb.2.2.2.2.2.1 (fun x hx => by have := (hb.2.2.2.2.2.2 x hx).1; omega)
  have hxl : xs.length ≤ 4096 := by have := hr.1.2.1; rw [List.length_map] at this; exact this
  have hwl := hw.2.1
  have lp : ∀ (c k g : Nat), k + c = ws.length → c + 1 < g → ∃ σ', f_M_look2_2 F g m (nI k) (mh m h σ) = some ((), mh m h σ') ∧ ((ex1 (lkW ws xs) k c || (ex1 (lkT fs s xs) 0 s.2.2.1.length || (dfI wST xs).isNone)) = false → σ' = σ) ∧ ((ex1 (lkW ws xs) k c || (ex1 (lkT fs s xs) 0 s.2.2.1.length || (dfI wST xs).isNone)) = true → LK σ σ') := by
    intro c
    induction c with
    | zero =>
      intro k g hk hg
      obtain ⟨g, rfl⟩ : ∃ x, g = x + 1 := ⟨g - 1, by omega⟩
      unfold f_M_look2_2 f_M_look2_82
      rw [Mg32 hm, bs, hw.1, if_pos (nI_le (by omega) (by omega))]
      show ∃ σ', _ ∧ ((false || _) = false → σ' = σ) ∧ ((false || _) = true → LK σ σ')
      rw [Bool.false_or]
      exact q_lk_84 (σ0 := σ0) hm hF hfs h3 hb hd h14 h17 hr hok hc h13 hnm s.2.2.1.length 0 F (by omega) (by omega)
    | succ c ih =>
      intro k g hk hg
      obtain ⟨g, rfl⟩ : ∃ x, g = x + 2 := ⟨g - 2, by omega⟩
      obtain ⟨w, hwk⟩ : ∃ w, ws[k]? = some w := ⟨ws[k]'(by omega), List.getElem?_eq_getElem (by omega)⟩
      obtain ⟨okw, e1, e2⟩ := hw.2.2 k w hwk
      have okl := okw.1
      have hf := q_find (F := F) (h := h) (σ := σ) (pa := m + 24) (p := 20 * k) (w := w) (M := 320) hm (by omega) hr.1 (fun i hi => Ma34 hm hi) e2 okw.2 (by omega) (by decide)
      obtain ⟨i, ei⟩ := Option.isSome_iff_exists.mp (hwn w (List.mem_of_getElem? hwk))
      have hi := idx_lt ei
      rw [List.length_map] at hi
      obtain ⟨x, hx⟩ : ∃ x, xs[i]? = some x := ⟨xs[i]'(by omega), List.getElem?_eq_getElem (by omega)⟩
      have hx4 := (hok i x hx).1
      rw [ei] at hf
      have el : lkW ws xs k = decide (x.2.1 = 0) := by
        unfold lkW plc
        rw [List.getD_eq_getElem?_getD, hwk]
        show decide (stN xs ((idx w 0 (xs.map Prod.fst)).getD _) = 0) = _
        rw [ei]
        show decide (stN xs i = 0) = _
        rw [stN_at hx]
      unfold f_M_look2_2 f_M_look2_76
      rw [Mg32 hm, bs, hw.1, if_neg (nI_ge (by omega) (by omega)), Mg13 hm, bs, h13, if_pos (show nI 0 = 0 from rfl), Mr34 hm, bs, Mr36 hm, bs, Ma36 hm (by omega), bs, e1, e_o hm, bs, pk_mul, nI_add, hf, xb_mk, show tdA (some i) = nI i from rfl, Mr23 hm, bs, Ma23 hm (by omega), bs, (hr.2 i x hx).1, nI_add, ex1_s, el]
      by_cases c3 : x.2.1 = 0
      · obtain ⟨σ', b1, b2⟩ := q_blame (F := F) hm (by omega) hr hx h3
        rw [if_pos (by rw [c3]; decide), b1, decide_eq_true c3]
        exact ⟨σ', q_lk_2n hm (by omega) b2.1, fun q => (nomatch q), fun _ => b2⟩
      · rw [if_neg (show ¬ nI x.2.1 ≤ 0 from nI_ge (a := 0) (by omega) (by omega)), decide_eq_false c3, Bool.false_or]
        exact ih (k + 1) (g + 1) (by omega) (by omega)
  unfold lkA f_M_look2
  exact lp ws.length 0 F (by omega) (by omega)
end MLK
end
section
/-! object t taken, of n bytes b at o -/
def OB (σ : px_S) (t o n : Nat) (b : Nat → Nat) : Prop := RTa σ t o ∧ cb (gA σ 6) o n = b ∧ o + n ≤ 65536 ∧ eObj b n = 0 ∧ ∀ k, isB (gA σ 6 k)
theorem OB_FR {σ σ' : px_S} {I J A B : List Nat} {t o n : Nat} {b : Nat → Nat} (h : OB σ t o n b) (f : FR I J A B σ σ') (hA : 6 ∉ A ∧ 9 ∉ A ∧ 17 ∉ A) : OB σ' t o n b := by
  obtain ⟨⟨a1, q, a2, a3, a4⟩, h2, h3, h4, h5⟩ := h
  have e6 := f.2.2.1 6 hA.1
  exact ⟨⟨a1, q, a2, by rw [f.2.2.1 17 hA.2.2]; exact a3, by rw [f.2.2.1 9 hA.2.1]; exact a4⟩, by rw [e6]; exact h2, h3, h4, by rw [e6]; exact h5⟩
theorem eObj_s {b : Nat → Nat} {n : Nat} (h : eObj b n = 0) : eSit b = 0 := by
  unfold eObj at h
  split at h
  · cases h
  · split at h
    · cases h
    · split at h
      · rename_i c; exact absurd h c
      · split at h
        · rename_i c; exact absurd h c
        · split at h
          · rename_i c; exact absurd h c
          · rename_i c
            by_cases e : eSit b = 0
            · exact e
            · exact absurd e c
theorem al_iffw {p : Nat → Bool} : ∀ {c k : Nat}, al p k c = true ↔ ∀ i, k ≤ i → i < k + c → p i = true := by
  intro c
  induction c with
  | zero => intro k; exact ⟨fun _ i h1 h2 => by omega, fun _ => rfl⟩
  | succ c ih =>
    intro k
    rw [show al p k (c + 1) = (p k && al p (k + 1) c) from rfl, Bool.and_eq_true, ih]
    constructor
    · rintro ⟨h1, h2⟩ i h3 h4
      by_cases e : i = k
      · rw [e]; exact h1
      · exact h2 i (by omega) (by omega)
    · intro hh
      exact ⟨hh k (Nat.le_refl _) (by omega), fun i h1 h2 => hh i (by omega) (by omega)⟩
/-- the sites of an object that was read -/
theorem eSit_0 {b : Nat → Nat} {n : Nat} (h : eObj b n = 0) {i : Nat} (hi : 1 ≤ i) (hiS : i < oS b) (hs : isS b i = true) : oI b i < oS b ∧ oK b (oI b i) = true ∧ oT b i = 4 ∧ oP b i + oZ b i ≤ n ∧ oZ b i % 24 = 0 ∧ ∀ j, j < sN b i → sOK b i j = true := by
  have h1 := eObj_s h
  have hw := (eObj_0 h).1
  have hs0 := hs
  unfold isS at hs
  have hs := of_decide_eq_true hs
  unfold eSit at h1
  split at h1
  · rename_i c
    have h2 := al_iffw.mp c i hi (by omega)
    rw [hs0] at h2
    have h2 : (false || sSec b i) = true := h2
    rw [Bool.false_or] at h2
    unfold sSec at h2
    rw [Bool.and_eq_true] at h2
    refine ⟨hs.2.1, hs.2.2, hs.1, hw.1.2.2.2.1 i hiS (by omega) (by omega), (of_decide_eq_true h2.1).1, fun j hj => ?_⟩
    exact al_iffw.mp h2.2 j (Nat.zero_le _) (by omega)
  · cases h1
theorem sOK_0w {b : Nat → Nat} {i j : Nat} (h : sOK b i j = true) : wd (sH b i j) ≠ 16 ∧ sY b i j < oM b ∧ (wd (sH b i j) = 0 ∨ oT b (oI b i) ≠ 8 ∧ sL b i j + wd (sH b i j) ≤ oZ b (oI b i)) := by
  unfold sOK at h
  rw [Bool.and_eq_true] at h
  exact of_decide_eq_true h.1
section MOB
variable {F m t o n k i j : Nat} {h : px_H} {σ : px_S} {b : Nat → Nat}
theorem OB_w (hb : OB σ t o n b) : w2 b n := (eObj_0 hb.2.2.2.1).1
theorem OB_rk (hb : OB σ t o n b) : rk (gA σ 6) o n := w1_rk (by rw [hb.2.1]; exact (OB_w hb).1) hb.2.2.1
theorem OB_y (hb : OB σ t o n b) (h1 : 1 ≤ k) (hk : k < oM b) : yOK b k = true := (eObj_0 hb.2.2.2.1).2.1 k h1 hk
theorem O_obj (hm : m ≤ h.length) (hb : OB σ t o n b) : f_M_object F m (nI t) (mh m h σ) = some (nI o, mh m h σ) := q_object hm hb.1
theorem O_sec (hm : m ≤ h.length) (hF : 24 < F) (hb : OB σ t o n b) : f_M_sections F m (nI o) (mh m h σ) = some (nI (oS b), mh m h σ) := by
  rw [q_sections (Mmb hm hb.2.2.2.2) (by omega) (OB_rk hb).1, hb.2.1]
theorem O_type (hm : m ≤ h.length) (hF : 24 < F) (hb : OB σ t o n b) (hi : i < oS b) : f_M_type F m (nI o) (nI i) (mh m h σ) = some (lN (oT b i), mh m h σ) := by
  rw [q_type (Mmb hm hb.2.2.2.2) (by omega) (OB_rk hb) (by rw [hb.2.1]; exact hi), hb.2.1]
theorem O_flags (hm : m ≤ h.length) (hF : 24 < F) (hb : OB σ t o n b) (hi : i < oS b) : f_M_flagsOf F m (nI o) (nI i) (mh m h σ) = some (lN (oF b i), mh m h σ) := by
  rw [q_flagsOf (Mmb hm hb.2.2.2.2) (by omega) (OB_rk hb) (by rw [hb.2.1]; exact hi), hb.2.1]
theorem O_beg (hm : m ≤ h.length) (hF : 24 < F) (hb : OB σ t o n b) (hi : i < oS b) : f_M_beginning F m (nI o) (nI i) (mh m h σ) = some (lN (oP b i), mh m h σ) := by
  rw [q_beginning (Mmb hm hb.2.2.2.2) (by omega) (OB_rk hb) (by rw [hb.2.1]; exact hi), hb.2.1]
theorem O_size (hm : m ≤ h.length) (hF : 24 < F) (hb : OB σ t o n b) (hi : i < oS b) : f_M_size F m (nI o) (nI i) (mh m h σ) = some (lN (oZ b i), mh m h σ) := by
  rw [q_size (Mmb hm hb.2.2.2.2) (by omega) (OB_rk hb) (by rw [hb.2.1]; exact hi), hb.2.1]
theorem O_info (hm : m ≤ h.length) (hF : 24 < F) (hb : OB σ t o n b) (hi : i < oS b) : f_M_info F m (nI o) (nI i) (mh m h σ) = some (lN (oI b i), mh m h σ) := by
  rw [q_info (Mmb hm hb.2.2.2.2) (by omega) (OB_rk hb) (by rw [hb.2.1]; exact hi), hb.2.1]
theorem O_align (hm : m ≤ h.length) (hF : 24 < F) (hb : OB σ t o n b) (hi : i < oS b) : f_M_align F m (nI o) (nI i) (mh m h σ) = some (lN (oA b i), mh m h σ) := by
  rw [q_align (Mmb hm hb.2.2.2.2) (by omega) (OB_rk hb) (by rw [hb.2.1]; exact hi), hb.2.1]
theorem O_kept (hm : m ≤ h.length) (hF : 24 < F) (hb : OB σ t o n b) (hi : i < oS b) : f_M_isKept F m (nI o) (nI i) (mh m h σ) = some (bI (oK b i), mh m h σ) := by
  rw [q_isKept (Mmb hm hb.2.2.2.2) (by omega) (OB_rk hb) (by rw [hb.2.1]; exact hi), hb.2.1]
theorem O_group (hm : m ≤ h.length) (hF : 24 < F) (hb : OB σ t o n b) (hi : i < oS b) : f_M_group F m (nI o) (nI i) (mh m h σ) = some (nI (oG b i), mh m h σ) := by
  rw [q_group (Mmb hm hb.2.2.2.2) (by omega) (OB_rk hb) (by rw [hb.2.1]; exact hi), hb.2.1]
theorem O_many (hm : m ≤ h.length) (hF : 24 < F) (hb : OB σ t o n b) : f_M_symbolMany F m (nI o) (mh m h σ) = some (nI (oM b), mh m h σ) := by
  rw [q_symbolMany (Mmb hm hb.2.2.2.2) (by omega) (OB_rk hb) (by rw [hb.2.1]; exact (OB_w hb).1.2.1.1) (by rw [hb.2.1]; exact w2_z (OB_w hb)), hb.2.1]
theorem O_where (hm : m ≤ h.length) (hF : 24 < F) (hb : OB σ t o n b) (hk : k < oM b) : f_M_where F m (nI o) (nI k) (mh m h σ) = some (nI (yW b k), mh m h σ) := by
  rw [q_where (Mmb hm hb.2.2.2.2) (by omega) (OB_rk hb) (by rw [hb.2.1]; exact (OB_w hb).1.2.1.1) (by rw [hb.2.1]; exact w2_y (OB_w hb) hk), hb.2.1]
theorem O_value (hm : m ≤ h.length) (hF : 24 < F) (hb : OB σ t o n b) (hk : k < oM b) : f_M_value F m (nI o) (nI k) (mh m h σ) = some (lN (yV b k), mh m h σ) := by
  rw [q_value (Mmb hm hb.2.2.2.2) (by omega) (OB_rk hb) (by rw [hb.2.1]; exact (OB_w hb).1.2.1.1) (by rw [hb.2.1]; exact w2_y (OB_w hb) hk), hb.2.1]
theorem O_ysize (hm : m ≤ h.length) (hF : 24 < F) (hb : OB σ t o n b) (hk : k < oM b) : f_M_symbolSize F m (nI o) (nI k) (mh m h σ) = some (lN (yZ b k), mh m h σ) := by
  rw [q_symbolSize (Mmb hm hb.2.2.2.2) (by omega) (OB_rk hb) (by rw [hb.2.1]; exact (OB_w hb).1.2.1.1) (by rw [hb.2.1]; exact w2_y (OB_w hb) hk), hb.2.1]
theorem O_bind (hm : m ≤ h.length) (hF : 24 < F) (hb : OB σ t o n b) (hk : k < oM b) : f_M_bind F m (nI o) (nI k) (mh m h σ) = some (nI (yB b k), mh m h σ) := by
  rw [q_bind (Mmb hm hb.2.2.2.2) (by omega) (OB_rk hb) (by rw [hb.2.1]; exact (OB_w hb).1.2.1.1) (by rw [hb.2.1]; exact w2_y (OB_w hb) hk), hb.2.1]
theorem O_sym (hm : m ≤ h.length) (hF : 24 < F) (hb : OB σ t o n b) : f_M_symbol F m (nI o) (nI k) (mh m h σ) = some (nI (o + yP b k), mh m h σ) := by
  rw [q_symbol (Mmb hm hb.2.2.2.2) (by omega) (OB_rk hb) (by rw [hb.2.1]; exact (OB_w hb).1.2.1.1), hb.2.1]
theorem O_wNo {dr : Nat → Bool} (hm : m ≤ h.length) (hF : 24 < F) (hb : OB σ t o n b) (hd : RDr σ dr) (hk : k < oM b) : f_M_whereNow F m (nI t) (nI k) (mh m h σ) = some (nI (wNo dr t b k), mh m h σ) := by
  have := q_whereNow (F := F) (k := k) (dr := dr) hm hF hb.2.2.2.2 (by rw [hb.2.1]; exact OB_w hb) hb.2.2.1 (by rw [hb.2.1]; exact hk) hb.1 hd
  rw [hb.2.1] at this
  exact this
theorem O_name {xs : px_NL} (hm : m ≤ h.length) (hF : 4096 < F) (hb : OB σ t o n b) (hr : RL σ xs) (h1 : 1 ≤ k) (hk : k < oM b) (hk2 : yB b k ≠ 0) : f_M_nameOf F m (nI o) (nI k) (mh m h σ) = some (tdA (idx (yT b k) 0 (xs.map Prod.fst)), mh m h σ) := by
  have := q_nameOf (F := F) (k := k) (xs := xs) hm hF hb.2.2.2.2 (by rw [hb.2.1]; exact OB_w hb) hb.2.2.1 (by rw [hb.2.1]; exact hk) (by rw [hb.2.1]; exact (yOK_n (OB_y hb h1 hk) hk2).2.1) hr
  rw [hb.2.1] at this
  exact this
theorem O_isS (hm : m ≤ h.length) (hF : 24 < F) (hb : OB σ t o n b) (hi : i < oS b) : f_M_isSites F m (nI o) (nI i) (mh m h σ) = some (bI (isS b i), mh m h σ) := by
  rw [q_isSites (Mmb hm hb.2.2.2.2) (by omega) (OB_rk hb) (by rw [hb.2.1]; exact hi), hb.2.1]
theorem O_sN (hm : m ≤ h.length) (hF : 24 < F) (hb : OB σ t o n b) (h1 : 1 ≤ i) (hi : i < oS b) (hs : isS b i = true) : f_M_siteMany F m (nI o) (nI i) (mh m h σ) = some (nI (sN b i), mh m h σ) := by
  have hz := (eSit_0 hb.2.2.2.1 h1 hi hs).2.2.2.1
  have hn := hb.2.2.1
  rw [q_siteMany (Mmb hm hb.2.2.2.2) (by omega) (OB_rk hb) (by rw [hb.2.1]; exact hi) (by rw [hb.2.1]; omega), hb.2.1]
theorem O_site (hm : m ≤ h.length) (hF : 24 < F) (hb : OB σ t o n b) (hi : i < oS b) : f_M_site F m (nI o) (nI i) (nI j) (mh m h σ) = some (nI (o + sP b i j), mh m h σ) := by
  rw [q_site (Mmb hm hb.2.2.2.2) (by omega) (OB_rk hb) (by rw [hb.2.1]; exact hi), hb.2.1]
theorem OB_sP (hb : OB σ t o n b) (h1 : 1 ≤ i) (hi : i < oS b) (hs : isS b i = true) (hj : j < sN b i) : sP b i j + 24 ≤ n := by
  have h2 := eSit_0 hb.2.2.2.1 h1 hi hs
  have h3 := h2.2.2.2.1
  have h4 := h2.2.2.2.2.1
  unfold sP
  unfold sN at hj
  omega
theorem O_sL (hm : m ≤ h.length) (hF : 24 < F) (hb : OB σ t o n b) (hp : sP b i j + 24 ≤ n) : f_M_num F m (nI (o + sP b i j)) (nI 8) (mh m h σ) = some (lN (sL b i j), mh m h σ) := by
  have := q_sL (F := F) (p := sP b i j) (Mmb hm hb.2.2.2.2) (by omega) hb.2.2.1 hp
  rw [hb.2.1] at this
  exact this
theorem O_sH (hm : m ≤ h.length) (hF : 24 < F) (hb : OB σ t o n b) (hp : sP b i j + 24 ≤ n) : f_M_num F m (nI (o + sP b i j + 8)) (nI 4) (mh m h σ) = some (lN (sH b i j), mh m h σ) := by
  have := q_sH (F := F) (p := sP b i j) (Mmb hm hb.2.2.2.2) (by omega) hb.2.2.1 hp
  rw [hb.2.1] at this
  exact this
theorem O_sY (hm : m ≤ h.length) (hF : 24 < F) (hb : OB σ t o n b) (hp : sP b i j + 24 ≤ n) : f_M_num F m (nI (o + sP b i j + 12)) (nI 4) (mh m h σ) = some (lN (sY b i j), mh m h σ) := by
  have := q_sY (F := F) (p := sP b i j) (Mmb hm hb.2.2.2.2) (by omega) hb.2.2.1 hp
  rw [hb.2.1] at this
  exact this
theorem O_sD (hm : m ≤ h.length) (hF : 24 < F) (hb : OB σ t o n b) (hp : sP b i j + 24 ≤ n) : f_M_num F m (nI (o + sP b i j + 16)) (nI 8) (mh m h σ) = some (lN (sD b i j), mh m h σ) := by
  have := q_sD (F := F) (p := sP b i j) (Mmb hm hb.2.2.2.2) (by omega) hb.2.2.1 hp
  rw [hb.2.1] at this
  exact this
theorem OB_lt (hb : OB σ t o n b) (x : Nat) : b x < 256 := by
  have := cb_lt (gA σ 6) o n x
  rw [hb.2.1] at this
  exact this
theorem OB_yB (hb : OB σ t o n b) : yB b k < 16 := yB_lt (OB_lt hb) k
theorem OB_yW (hb : OB σ t o n b) : yW b k < 65536 := by
  have := yW_2 (B := gA σ 6) (o := o) (n := n) (k := k)
  rw [hb.2.1] at this
  exact this
theorem wNo_lt {dr : Nat → Bool} (hb : OB σ t o n b) : wNo dr t b k < 65536 := by
  have := OB_yW (k := k) hb
  unfold wNo
  split <;> omega
end MOB
end
section
/-! the names of a link: what is known of them -/
def obT (fs : px_FS) (tq : List Nat) (t : Nat) : Nat × Nat × (Nat → Nat) × Bool := ((tq[t]?).bind (obAt fs)).getD (0, 0, fun _ => 0, false)
def tB (fs : px_FS) (tq : List Nat) (t : Nat) : Nat → Nat := (obT fs tq t).2.2.1
def AL (P : List Nat × px_NR → Prop) (xs : px_NL) : Prop := ∀ (i : Nat) (x : List Nat × px_NR), xs[i]? = some x → P x
theorem AL_ent {P : List Nat × px_NR → Prop} {w : List Nat} {xs : px_NL} (h : AL P xs) (hw : P (w, nr0)) : AL P (entL w xs) := by
  unfold entL
  split
  · exact h
  · intro i x hx
    by_cases c : i < xs.length
    · rw [List.getElem?_append_left c] at hx
      exact h i x hx
    · have hl := (List.getElem?_eq_some_iff.mp hx).1
      rw [List.length_append] at hl
      have hl : i < xs.length + 1 := hl
      rw [List.getElem?_append_right (by omega), show i - xs.length = 0 by omega] at hx
      have hx : (w, nr0) = x := Option.some.inj hx
      rw [← hx]; exact hw
theorem AL_setR {P : List Nat × px_NR → Prop} {i : Nat} {f : px_NR → px_NR} {xs : px_NL} (h : AL P xs) (hf : ∀ x, xs[i]? = some x → P (x.1, f x.2)) : AL P (setR xs i f) := by
  unfold setR
  cases e : xs[i]? with
  | none => exact h
  | some y =>
    intro j x hx
    have hx : (xs.set i (y.1, f y.2))[j]? = some x := hx
    by_cases c : i = j
    · rw [← c, List.getElem?_set_self (List.getElem?_eq_some_iff.mp e).1] at hx
      rw [← Option.some.inj hx]
      exact hf y e
    · rw [List.getElem?_set_ne c] at hx
      exact h j x hx
theorem AL_mono {P Q : List Nat × px_NR → Prop} {xs : px_NL} (h : AL P xs) (hq : ∀ x, P x → Q x) : AL Q xs := fun i x hx => hq x (h i x hx)
/-- where a name's definition comes from -/
def byP (T : Nat) (tb : Nat → Nat → Nat) (dr : Nat → Bool) (x : List Nat × px_NR) : Prop := match x.2.2.2.2.1 with
  | none => x.2.1 = 0 ∨ x.2.1 = 3 ∨ x.2.1 = 4
  | some q => q.1 < T ∧ (1 ≤ q.2 ∧ q.2 < oM (tb q.1)) ∧ yB (tb q.1) q.2 ≠ 0 ∧ sOf dr q.1 (tb q.1) q.2 = x.2.1 ∧ x.2.1 ≠ 0 ∧ yT (tb q.1) q.2 = x.1
theorem byP_of {T : Nat} {tb : Nat → Nat → Nat} {dr : Nat → Bool} {x y : List Nat × px_NR} (h : byP T tb dr x) (h1 : y.1 = x.1) (h2 : y.2.1 = x.2.1) (h3 : y.2.2.2.2.1 = x.2.2.2.2.1) : byP T tb dr y := by
  unfold byP at *
  rw [h1, h2, h3]
  exact h
theorem byP_nr {T : Nat} {tb : Nat → Nat → Nat} {dr : Nat → Bool} {w : List Nat} : byP T tb dr (w, nr0) := Or.inl rfl
theorem byP_cm {T k s z v : Nat} {tb : Nat → Nat → Nat} {dr : Nat → Bool} {w : List Nat} {r : px_NR} (hs : sOf dr T (tb T) k = s) (c1 : s ≠ 0) (h0 : byP (T + 1) tb dr (w, r)) (h1 : 1 ≤ k) (hk : k < oM (tb T)) (hb : yB (tb T) k ≠ 0) (hw : yT (tb T) k = w) : byP (T + 1) tb dr (w, cmS s T k z v r) := by
  unfold cmS
  by_cases c2 : r.1 < s
  · rw [if_pos c2]
    exact ⟨Nat.lt_succ_self T, ⟨h1, hk⟩, hb, hs, c1, hw⟩
  · rw [if_neg c2]
    by_cases c3 : s = 2 ∧ r.1 = 2
    · rw [if_pos c3]; exact byP_of h0 rfl rfl rfl
    · rw [if_neg c3]; exact h0
theorem byP_com {T k : Nat} {tb : Nat → Nat → Nat} {dr : Nat → Bool} {st : px_NL × List Nat} (h : AL (byP (T + 1) tb dr) st.1) (h1 : 1 ≤ k) (hk : k < oM (tb T)) (hb : yB (tb T) k ≠ 0) : AL (byP (T + 1) tb dr) (comS dr T (tb T) k st).2.1 := by
  have h2 := AL_ent (w := yT (tb T) k) h byP_nr
  obtain ⟨r, p1, p2⟩ := plc_at (w := yT (tb T) k) (xs := st.1)
  have hcm : sOf dr T (tb T) k ≠ 0 → ∀ r, byP (T + 1) tb dr (yT (tb T) k, r) → byP (T + 1) tb dr (yT (tb T) k, cmS (sOf dr T (tb T) k) T k (yZ (tb T) k) (yV (tb T) k) r) := fun c r h0 => byP_cm rfl c h0 h1 hk hb rfl
  unfold comS
  generalize cmS (sOf dr T (tb T) k) T k (yZ (tb T) k) (yV (tb T) k) = g at *
  generalize yT (tb T) k = w at *
  generalize sOf dr T (tb T) k = s at *
  generalize decide (yB (tb T) k = 1) = d at *
  generalize plc w (st.1.map Prod.fst) = i at *
  generalize entL w st.1 = ys at *
  by_cases c1 : s = 0
  · rw [if_pos c1]
    exact AL_setR (f := fun r => (r.1, (r.2.1 || d), r.2.2)) h2 (fun x hx => byP_of (x := x) (h2 _ x hx) rfl rfl rfl)
  · rw [if_neg c1]
    by_cases c2 : s = 3 ∧ (ys.getD i ([], nr0)).2.1 = 3
    · rw [if_pos c2]; exact h2
    · rw [if_neg c2]
      refine AL_setR h2 (fun x hx => ?_)
      rw [p1] at hx
      have hx := Option.some.inj hx
      rw [← hx]
      exact hcm c1 r (h2 _ _ p1)
theorem byP_tk {T k : Nat} {tb : Nat → Nat → Nat} {dr : Nat → Bool} {s : px_TS} (h : AL (byP (T + 1) tb dr) s.2.1) (h1 : 1 ≤ k) (hk : k < oM (tb T)) : AL (byP (T + 1) tb dr) (tk1 dr T (tb T) k s).2.1 := by
  unfold tk1
  by_cases c1 : yB (tb T) k = 0
  · rw [if_pos c1]; exact h
  · rw [if_neg c1]
    have hc := byP_com (st := (s.2.1, s.2.2.1)) h h1 hk c1
    have he := AL_ent (w := yT (tb T) k) h byP_nr
    generalize comS dr T (tb T) k (s.2.1, s.2.2.1) = R at *
    split
    · exact he
    · split
      · exact hc
      · exact hc
/-- the texts -/
def txs (s : px_TS) : List (List Nat) := s.2.1.map Prod.fst
theorem entL_fst {w : List Nat} {xs : px_NL} : (entL w xs).map Prod.fst = ent w (xs.map Prod.fst) := by
  unfold entL ent
  split
  · rfl
  · rw [List.map_append]; rfl
theorem idx_iff {w : List Nat} {l : List (List Nat)} : (idx w 0 l).isSome = true ↔ w ∈ l := by
  constructor
  · intro h
    obtain ⟨i, hi⟩ := Option.isSome_iff_exists.mp h
    have := idx_some hi
    exact List.mem_of_getElem? this
  · intro h
    obtain ⟨i, hi⟩ := List.getElem?_of_mem h
    exact idx_mem hi
theorem ent_mem {w v : List Nat} {l : List (List Nat)} : v ∈ ent w l ↔ v = w ∨ v ∈ l := by
  unfold ent
  split
  · rename_i c
    have := idx_iff.mp c
    exact ⟨Or.inr, fun q => q.elim (fun q => q ▸ this) id⟩
  · rw [List.mem_append, List.mem_singleton]
    exact Or.comm
theorem ent_nd {w : List Nat} {l : List (List Nat)} (h : l.Nodup) : (ent w l).Nodup := by
  unfold ent
  split
  · exact h
  · rename_i c
    rw [List.nodup_append]
    refine ⟨h, List.nodup_cons.mpr ⟨List.not_mem_nil, List.nodup_nil⟩, fun x hx y hy e => c (idx_iff.mpr ?_)⟩
    rw [List.mem_singleton.mp hy] at e
    exact e ▸ hx
theorem comS_fst {dr : Nat → Bool} {t : Nat} {b : Nat → Nat} {k : Nat} {st : px_NL × List Nat} : (comS dr t b k st).2.1.map Prod.fst = ent (yT b k) (st.1.map Prod.fst) := by
  unfold comS
  split
  · dsimp only; rw [setR_fst, entL_fst]
  · split
    · exact entL_fst
    · dsimp only; rw [setR_fst, entL_fst]
theorem tk1_fst {dr : Nat → Bool} {t : Nat} {b : Nat → Nat} {k : Nat} {s : px_TS} : txs (tk1 dr t b k s) = if yB b k = 0 then txs s else ent (yT b k) (txs s) := by
  unfold tk1 txs
  by_cases c1 : yB b k = 0
  · rw [if_pos c1, if_pos c1]
  · rw [if_neg c1, if_neg c1]
    have hc := comS_fst (dr := dr) (t := t) (b := b) (k := k) (st := (s.2.1, s.2.2.1))
    generalize comS dr t b k (s.2.1, s.2.2.1) = R at *
    split
    · exact entL_fst
    · split
      · exact hc
      · exact hc
theorem itr_hit {α β : Type} {g : Nat → α → α} {M : β → α → Prop} {v : Nat → β} {Q : Nat → Prop} {a e : Nat} (hm : ∀ i s w, a ≤ i → i < e → M w s → M w (g i s)) (hh : ∀ i s, a ≤ i → i < e → Q i → M (v i) (g i s)) : ∀ (c k : Nat) (s : α), a ≤ k → k + c ≤ e → (∀ w, M w s → M w (itr g k c s)) ∧ ∀ i, k ≤ i → i < k + c → Q i → M (v i) (itr g k c s) := by
  intro c
  induction c with
  | zero => intro k s _ _; exact ⟨fun w h => h, fun i h1 h2 => by omega⟩
  | succ c ih =>
    intro k s h1 h2
    rw [itr_s]
    have i1 := ih (k + 1) (g k s) (by omega) (by omega)
    refine ⟨fun w hw => i1.1 w (hm k s w h1 (by omega) hw), fun i h3 h4 hq => ?_⟩
    by_cases c1 : i = k
    · rw [c1] at hq ⊢
      exact i1.1 _ (hh k s h1 (by omega) hq)
    · exact i1.2 i (by omega) (by omega) hq
/-- the order of definitions names names that are there -/
theorem tk1_od {dr : Nat → Bool} {t : Nat} {b : Nat → Nat} {k : Nat} {s : px_TS} (h : ∀ d, d ∈ s.2.2.1 → d < s.2.1.length) : s.2.1.length ≤ (tk1 dr t b k s).2.1.length ∧ ∀ d, d ∈ (tk1 dr t b k s).2.2.1 → d < (tk1 dr t b k s).2.1.length := by
  have el : s.2.1.length ≤ (entL (yT b k) s.2.1).length := by
    unfold entL
    split
    · exact Nat.le_refl _
    · rw [List.length_append]; omega
  obtain ⟨r, p1, p2⟩ := plc_at (w := yT b k) (xs := s.2.1)
  have hc : (comS dr t b k (s.2.1, s.2.2.1)).2.1.length = (entL (yT b k) s.2.1).length ∧ ∀ d, d ∈ (comS dr t b k (s.2.1, s.2.2.1)).2.2 → d < (entL (yT b k) s.2.1).length := by
    have ho : ∀ d, d ∈ s.2.2.1 → d < (entL (yT b k) s.2.1).length := fun d hd => Nat.lt_of_lt_of_le (h d hd) el
    unfold comS
    generalize cmS (sOf dr t b k) t k (yZ b k) (yV b k) = g at *
    generalize yT b k = w at *
    generalize sOf dr t b k = s0 at *
    dsimp only
    generalize plc w (s.2.1.map Prod.fst) = i at *
    generalize entL w s.2.1 = ys at *
    split
    · dsimp only; exact ⟨setR_len, ho⟩
    · split
      · exact ⟨rfl, ho⟩
      · refine ⟨by dsimp only; exact setR_len, fun d hd => ?_⟩
        dsimp only at hd
        split at hd
        · rcases List.mem_append.mp hd with hd | hd
          · exact ho d hd
          · rw [List.mem_singleton.mp hd]; exact p2
        · exact ho d hd
  unfold tk1
  by_cases c1 : yB b k = 0
  · rw [if_pos c1]; exact ⟨Nat.le_refl _, h⟩
  · rw [if_neg c1]
    generalize comS dr t b k (s.2.1, s.2.2.1) = R at *
    split
    · exact ⟨el, fun d hd => Nat.lt_of_lt_of_le (h d hd) el⟩
    · split
      · dsimp only; rw [hc.1]; exact ⟨el, hc.2⟩
      · dsimp only; rw [hc.1]; exact ⟨el, hc.2⟩
/-- dropped sections are those of the object itself -/
theorem mkD_out {t : Nat} {b : Nat → Nat} {i : Nat} (hg : ∀ j, 1 ≤ j → j < oZ b i / 4 → gN b i j < 24) {x : Nat} (hx : x < 24 * t ∨ 24 * t + 24 ≤ x) : ∀ (c j : Nat) (dr : Nat → Bool), 1 ≤ j → j + c ≤ oZ b i / 4 → mkD t b i j c dr x = dr x := by
  intro c
  induction c with
  | zero => intro j dr _ _; rfl
  | succ c ih =>
    intro j dr h1 h2
    have := hg j h1 (by omega)
    unfold mkD
    rw [ih (j + 1) _ (by omega) (by omega)]
    show (if x = 24 * t + gN b i j then true else dr x) = dr x
    rw [if_neg (by omega)]
theorem z_help {Z : Nat} (h1 : 1 ≤ Z) (h4 : Z % 4 = 0) : 1 + (Z / 4 - 1) ≤ Z / 4 := by omega
theorem dg1_cs {t : Nat} {b : Nat → Nat} {i : Nat} {s : (Nat → Bool) × Nat × List (List Nat)} : (oT b i = 17 ∧ ∃ R, R = mkD t b i 1 (oZ b i / 4 - 1) s.1 ∧ dg1 t b i s = (R, s.2.1 + 1, s.2.2)) ∨ (dg1 t b i s).1 = s.1 := by
  by_cases c1 : oT b i = 17 ∧ gN b i 0 = 1
  · by_cases c3 : (idx (yT b (oI b i)) 0 s.2.2).isSome = true
    · refine Or.inl ⟨c1.1, _, rfl, ?_⟩
      unfold dg1
      rw [if_pos c1, if_pos c3]
    · refine Or.inr ?_
      have hd1 : dg1 t b i s = (s.1, s.2.1, s.2.2 ++ [yT b (oI b i)]) := by unfold dg1; rw [if_pos c1, if_neg c3]
      generalize yT b (oI b i) = Y at hd1
      rw [hd1]
  · refine Or.inr ?_
    have hd1 : dg1 t b i s = s := by unfold dg1; rw [if_neg c1]
    rw [hd1]
theorem dg1_out {t : Nat} {b : Nat → Nat} {i n : Nat} (hg : GP b n) (h1 : 1 ≤ i) (hi : i < oS b) {x : Nat} (hx : x < 24 * t ∨ 24 * t + 24 ≤ x) (s : (Nat → Bool) × Nat × List (List Nat)) : (dg1 t b i s).1 x = s.1 x := by
  rcases dg1_cs (t := t) (b := b) (i := i) (s := s) with ⟨c1, R, hR, e⟩ | e
  · obtain ⟨⟨z1, z2, z3, z4⟩, z5, z6⟩ := hg i h1 hi c1
    have e2 := mkD_out z6 hx (oZ b i / 4 - 1) 1 s.1 (Nat.le_refl _) (z_help z1 z2)
    rw [← hR] at e2
    rw [e]
    exact e2
  · rw [e]
theorem dgs_out {t : Nat} {b : Nat → Nat} {n : Nat} (hg : GP b n) (hS : 1 ≤ oS b) {x : Nat} (hx : x < 24 * t ∨ 24 * t + 24 ≤ x) (s : (Nat → Bool) × Nat × List (List Nat)) : (itr (dg1 t b) 1 (oS b - 1) s).1 x = s.1 x :=
  itr_inv (P := fun r : (Nat → Bool) × Nat × List (List Nat) => r.1 x = s.1 x) (a := 1) (e := oS b) (fun i r h1 h2 hr => (dg1_out hg h1 h2 hx r).trans hr) (oS b - 1) 1 s (Nat.le_refl _) (by omega) rfl
end
section
/-! what is known of all that is taken -/
def drI (dr : Nat → Bool) (T : Nat) (dr' : Nat → Bool) : Prop := ∀ x, (x < 24 * T ∨ 24 * T + 24 ≤ x) → dr' x = dr x
theorem wNo_dr {dr dr' : Nat → Bool} {t : Nat} {b : Nat → Nat} {k : Nat} (h : ∀ w, w < 24 → dr' (24 * t + w) = dr (24 * t + w)) : wNo dr' t b k = wNo dr t b k := by
  unfold wNo
  generalize yW b k = w at *
  by_cases c : w < 24
  · rw [h w c]
  · rw [if_neg (fun q => c q.2.1), if_neg (fun q => c q.2.1)]
theorem sOf_dr {dr dr' : Nat → Bool} {t : Nat} {b : Nat → Nat} {k : Nat} (h : ∀ w, w < 24 → dr' (24 * t + w) = dr (24 * t + w)) : sOf dr' t b k = sOf dr t b k := by
  unfold sOf
  rw [wNo_dr h]
theorem byP_up {T : Nat} {tb tb' : Nat → Nat → Nat} {dr dr' : Nat → Bool} {x : List Nat × px_NR} (h : byP T tb dr x) (hb : ∀ t, t < T → tb' t = tb t) (hd : ∀ y, y < 24 * T → dr' y = dr y) : byP (T + 1) tb' dr' x := by
  unfold byP at *
  cases e : x.2.2.2.2.1 with
  | none => rw [e] at h; exact h
  | some q =>
    rw [e] at h
    obtain ⟨h1, h2, h3, h4, h5, h6⟩ := h
    have e1 := hb q.1 h1
    have e2 := sOf_dr (b := tb q.1) (k := q.2) (dr := dr) (dr' := dr') (t := q.1) (fun w hw => hd _ (by omega))
    show q.1 < T + 1 ∧ _
    rw [e1, e2]
    exact ⟨by omega, h2, h3, h4, h5, h6⟩
theorem tB_1 {fs : px_FS} {tq : List Nat} {q t : Nat} (h : t < tq.length) : tB fs (tq ++ [q]) t = tB fs tq t := by
  unfold tB obT
  rw [List.getElem?_append_left h]
theorem tB_2 {fs : px_FS} {tq : List Nat} {q o n : Nat} {b : Nat → Nat} {sk : Bool} (h : obAt fs q = some (o, n, b, sk)) : tB fs (tq ++ [q]) tq.length = b := by
  unfold tB obT
  rw [List.getElem?_append_right (Nat.le_refl _), Nat.sub_self]
  show (((obAt fs q)).getD _).2.2.1 = b
  rw [h]
  rfl
def nmP (fs : px_FS) (s : px_TK) : Prop := ∀ t k, t < s.2.2.1.length → 1 ≤ k → k < oM (tB fs s.2.2.1 t) → yB (tB fs s.2.2.1 t) k ≠ 0 → yT (tB fs s.2.2.1 t) k ∈ txs s.1
def WK (fs : px_FS) (s : px_TK) : Prop := BK fs s ∧ AL (byP s.2.2.1.length (tB fs s.2.2.1) s.2.1.1) s.1.2.1 ∧ nmP fs s ∧ (txs s.1).Nodup ∧ ∀ d, d ∈ s.1.2.2.1 → d < s.1.2.1.length
theorem tks_mem {dr : Nat → Bool} {t : Nat} {b : Nat → Nat} (c k : Nat) (s : px_TS) : (∀ w, w ∈ txs s → w ∈ txs (itr (tk1 dr t b) k c s)) ∧ ∀ i, k ≤ i → i < k + c → yB b i ≠ 0 → yT b i ∈ txs (itr (tk1 dr t b) k c s) :=
  itr_hit (g := tk1 dr t b) (M := fun w s => w ∈ txs s) (v := yT b) (Q := fun i => yB b i ≠ 0) (a := 0) (e := k + c) (fun i s w _ _ hw => by
    rw [tk1_fst]
    split
    · exact hw
    · exact ent_mem.mpr (Or.inr hw)) (fun i s _ _ hq => by
    rw [tk1_fst, if_neg hq]
    exact ent_mem.mpr (Or.inl rfl)) c k s (Nat.zero_le _) (Nat.le_refl _)
theorem tks_nd {dr : Nat → Bool} {t : Nat} {b : Nat → Nat} (c k : Nat) (s : px_TS) (h : (txs s).Nodup) : (txs (itr (tk1 dr t b) k c s)).Nodup :=
  itr_inv (g := tk1 dr t b) (P := fun s => (txs s).Nodup) (a := 0) (e := k + c) (fun i s _ _ hs => by
    show (txs (tk1 dr t b i s)).Nodup
    rw [tk1_fst]
    split
    · exact hs
    · exact ent_nd hs) c k s (Nat.zero_le _) (Nat.le_refl _) h
theorem tks_od {dr : Nat → Bool} {t : Nat} {b : Nat → Nat} (c k : Nat) (s : px_TS) (h : ∀ d, d ∈ s.2.2.1 → d < s.2.1.length) : ∀ d, d ∈ (itr (tk1 dr t b) k c s).2.2.1 → d < (itr (tk1 dr t b) k c s).2.1.length :=
  itr_inv (g := tk1 dr t b) (P := fun s : px_TS => ∀ d, d ∈ s.2.2.1 → d < s.2.1.length) (a := 0) (e := k + c) (fun i s _ _ hs => (tk1_od hs).2) c k s (Nat.zero_le _) (Nat.le_refl _) h
theorem tks_by {T : Nat} {tb : Nat → Nat → Nat} {dr : Nat → Bool} (s : px_TS) (h : AL (byP (T + 1) tb dr) s.2.1) : AL (byP (T + 1) tb dr) (itr (tk1 dr T (tb T)) 1 (oM (tb T) - 1) s).2.1 := by
  by_cases c : oM (tb T) = 0
  · rw [show oM (tb T) - 1 = 0 by omega]; exact h
  · exact itr_inv (g := tk1 dr T (tb T)) (P := fun s : px_TS => AL (byP (T + 1) tb dr) s.2.1) (a := 1) (e := oM (tb T)) (fun i s h1 h2 hs => byP_tk hs h1 h2) (oM (tb T) - 1) 1 s (Nat.le_refl _) (by omega) h
theorem WK_tk {fs : px_FS} {s : px_TK} {q o n : Nat} {b : Nat → Nat} (hk : WK fs s) (hq : obAt fs q = some (o, n, b, false)) (h64 : q < 64) (hn : q ∉ s.2.2.1) (he : eObj b n = 0) : WK fs (tkM b q s) := by
  obtain ⟨k1, k2, k3, k4, k5⟩ := hk
  obtain ⟨w, hy, hg⟩ := eObj_0 he
  have hM := w2_M w
  have hS := w.1.2.1
  refine ⟨BK_tk k1 hq h64 hn (by omega) (by omega) hy, ?_, ?_, ?_, ?_⟩
  · have hl : (tkM b q s).2.2.1 = s.2.2.1 ++ [q] := rfl
    have hl2 : (s.2.2.1 ++ [q]).length = s.2.2.1.length + 1 := by rw [List.length_append]; rfl
    rw [hl, hl2]
    have e2 := tB_2 (tq := s.2.2.1) hq
    have h1 : AL (byP (s.2.2.1.length + 1) (tB fs (s.2.2.1 ++ [q])) (itr (dg1 s.2.2.1.length b) 1 (oS b - 1) s.2.1).1) s.1.2.1 := AL_mono k2 (fun x hx => byP_up hx (fun t ht => tB_1 ht) (fun y hy => dgs_out hg (by omega) (Or.inl hy) s.2.1))
    have h2 := tks_by s.1 h1
    rw [e2] at h2
    exact h2
  · intro t k ht h1 hk hb
    have ht : t < (s.2.2.1 ++ [q]).length := ht
    rw [List.length_append] at ht
    have ht : t < s.2.2.1.length + 1 := ht
    have hk : k < oM (tB fs (s.2.2.1 ++ [q]) t) := hk
    have hb : yB (tB fs (s.2.2.1 ++ [q]) t) k ≠ 0 := hb
    show yT (tB fs (s.2.2.1 ++ [q]) t) k ∈ txs (itr (tk1 (itr (dg1 s.2.2.1.length b) 1 (oS b - 1) s.2.1).1 s.2.2.1.length b) 1 (oM b - 1) s.1)
    have hm := tks_mem (dr := (itr (dg1 s.2.2.1.length b) 1 (oS b - 1) s.2.1).1) (t := s.2.2.1.length) (b := b) (oM b - 1) 1 s.1
    by_cases c : t < s.2.2.1.length
    · rw [tB_1 c] at hk hb ⊢
      exact hm.1 _ (k3 t k c h1 hk hb)
    · have e : t = s.2.2.1.length := by omega
      rw [e, tB_2 hq] at hk hb ⊢
      exact hm.2 k h1 (by omega) hb
  · exact tks_nd (oM b - 1) 1 s.1 k4
  · exact tks_od (oM b - 1) 1 s.1 k5
theorem tf1_cs2 {fs : px_FS} {f k : Nat} {p : px_TK × Bool} : tf1 fs f k p = p ∨ ∃ o n b ca, obAt fs (8 * f + k) = some (o, n, b, false) ∧ 8 * f + k ∉ p.1.2.2.1 ∧ tf1 fs f k p = (tkM b (8 * f + k) (p.1.1, p.1.2.1, p.1.2.2.1, ca), true) := by
  unfold tf1
  split
  · exact Or.inl rfl
  · split
    · exact Or.inl rfl
    · rename_i y ey
      split
      · exact Or.inl rfl
      · rename_i c
        split
        · exact Or.inl rfl
        · refine Or.inr ⟨y.1, y.2.1, y.2.2.1, _, ?_, fun q => c (Or.inr q), rfl⟩
          have : y.2.2.2 = false := by
            cases e : y.2.2.2 with
            | true => exact absurd (Or.inl e) c
            | false => rfl
          rw [ey, ← this]
/-- every member that counts was read -/
def FSo (fs : px_FS) : Prop := ∀ q o n b, obAt fs q = some (o, n, b, false) → q < 64 ∧ eObj b n = 0
theorem RF_FSo {σ : px_S} {fs : px_FS} (h : RF σ fs) : FSo fs := fun q o n b hq => ⟨(RF_ob h hq).1, (RF_ob h hq).2.2.2.2.2.2 rfl⟩
theorem WK_tf1 {fs : px_FS} {f k : Nat} {p : px_TK × Bool} (hf : FSo fs) (h : WK fs p.1) : WK fs (tf1 fs f k p).1 := by
  rcases tf1_cs2 (fs := fs) (f := f) (k := k) (p := p) with e | ⟨o, n, b, ca, h1, h2, e⟩
  · rw [e]; exact h
  · rw [e]
    have h3 : WK fs (p.1.1, p.1.2.1, p.1.2.2.1, ca) := h
    exact WK_tk h3 h1 (hf _ _ _ _ h1).1 h2 (hf _ _ _ _ h1).2
theorem WK_tfL {fs : px_FS} {f c : Nat} {s : px_TK} (hf : FSo fs) (h : WK fs s) : WK fs (tfL fs f c s) := by
  unfold tfL
  refine whl_inv (st := tfS) (g := rdF fs f) (P := WK fs) (fun s hs => ?_) c s h
  unfold rdF
  exact itr_inv (g := tf1 fs f) (P := fun p : px_TK × Bool => WK fs p.1) (a := 0) (e := 8) (fun k p _ _ hp => WK_tf1 hf hp) 8 0 (s, false) (Nat.le_refl _) (Nat.le_refl _) hs
theorem obAt_8 {fs : px_FS} {f : Nat} {x : Nat × (Nat → Nat)} (hx : fs[f]? = some x) (ea : isAr x.2 x.1 = false) : obAt fs (8 * f) = some (8192 * f + 0, x.1, sub x.2 0 x.1, false) := by
  have hl2 : fMem x.2 x.1 = some [(0, x.1, false)] := by unfold fMem; rw [ea, if_neg (by decide)]
  unfold obAt
  rw [show (8 * f) / 8 = f by omega, show (8 * f) % 8 = 0 by omega, hx]
  show (match fMem x.2 x.1 with
    | none => none
    | some l => match l[0]? with
      | none => none
      | some y => some (8192 * f + y.1, y.2.1, sub x.2 y.1 y.2.1, y.2.2)) = _
  rw [hl2]
  rfl
def qLs (f : Nat) (s : px_TK) : Prop := ∀ q, q ∈ s.2.2.1 → q / 8 < f
theorem WK_ta1 {fs : px_FS} {f : Nat} {s : px_TK} (hf : FSo fs) (h : WK fs s) (hq : qLs f s) : WK fs (ta1 fs f s) ∧ qLs (f + 1) (ta1 fs f s) := by
  have hq1 : qLs (f + 1) s := fun q hh => by have := hq q hh; omega
  unfold ta1
  split
  · exact ⟨h, hq1⟩
  · split
    · exact ⟨h, hq1⟩
    · rename_i x hx
      split
      · exact ⟨WK_tfL hf h, tfL_q hq1⟩
      · rename_i ea
        have hob := obAt_8 hx (Bool.eq_false_iff.mpr ea)
        refine ⟨WK_tk h hob (hf _ _ _ _ hob).1 (fun q => by have := hq _ q; omega) (hf _ _ _ _ hob).2, fun q hq2 => ?_⟩
        have hq2 : q ∈ s.2.2.1 ++ [8 * f] := hq2
        rcases List.mem_append.mp hq2 with hq2 | hq2
        · have := hq q hq2; omega
        · rw [List.mem_singleton.mp hq2]; omega
theorem WK_tas {fs : px_FS} (hf : FSo fs) : ∀ (c f : Nat) (s : px_TK), WK fs s → qLs f s → WK fs (itr (ta1 fs) f c s) := by
  intro c
  induction c with
  | zero => intro f s h _; exact h
  | succ c ih =>
    intro f s h hq
    rw [itr_s]
    have h1 := WK_ta1 hf h hq
    exact ih (f + 1) _ h1.1 h1.2
theorem WK_taL {fs : px_FS} {xs : px_NL} {od : List Nat} (hf : FSo fs) (hok : okL xs) (hxl : xs.length ≤ 32) (hol : od.length ≤ 32) (hby : ∀ (i : Nat) (x : List Nat × px_NR), xs[i]? = some x → x.2.2.2.2.1 = none ∧ (x.2.1 = 0 ∨ x.2.1 = 3)) (hnd : (xs.map Prod.fst).Nodup) (hod : ∀ d, d ∈ od → d < xs.length) : WK fs (taL fs xs od) := by
  refine WK_tas hf 8 0 _ ⟨⟨Nat.zero_le _, hok, by show xs.length ≤ 32 + 63 * 0; omega, by show od.length ≤ 32 + 63 * 0; omega, Nat.zero_le _, List.nodup_nil, fun q hq => absurd hq List.not_mem_nil⟩, ?_, ?_, hnd, hod⟩ (fun q hq => absurd hq List.not_mem_nil)
  · intro i x hx
    have := hby i x hx
    unfold byP
    rw [this.1]
    rcases this.2 with e | e
    · exact Or.inl e
    · exact Or.inr (Or.inl e)
  · intro t k ht
    exact absurd ht (Nat.not_lt_zero t)
end
section
/-! what is reached: pure, and the reference's reachSection, reachName -/
abbrev px_RR : Type := (Nat → Bool) × (Nat → Bool) × Bool
def bup (R : Nat → Bool) (y : Nat) (x : Nat) : Bool := if x = y then true else R x
theorem bup_m {R : Nat → Bool} {y x : Nat} (h : R x = true) : bup R y x = true := by
  unfold bup
  split
  · rfl
  · exact h
theorem bup_e {R : Nat → Bool} {y : Nat} : bup R y y = true := if_pos rfl
def rs1 (x : Option Nat) (s : px_RR) : px_RR := match x with
  | none => s
  | some y => if s.1 y = true then s else (bup s.1 y, s.2.1, true)
def rn1 (x : Option Nat) (s : px_RR) : px_RR := match x with
  | none => s
  | some n => (s.1, bup s.2.1 n, s.2.2)
def secT (tb : Nat → Nat → Nat) (dr : Nat → Bool) (t w : Nat) : Option Nat := if 0 < w ∧ w < oS (tb t) ∧ oK (tb t) w = true ∧ dr (24 * t + w) = false then some (24 * t + w) else none
def secN (tb : Nat → Nat → Nat) (dr : Nat → Bool) (r : px_NR) : Option Nat := match r.2.2.2.1 with
  | none => none
  | some q => if r.1 = 1 ∨ r.1 = 3 then secT tb dr q.1 (wNo dr q.1 (tb q.1) q.2) else none
def secY (tb : Nat → Nat → Nat) (dr : Nat → Bool) (xs : px_NL) (t k : Nat) : Option Nat := if k = 0 then none else if yB (tb t) k = 0 then secT tb dr t (wNo dr t (tb t) k) else match xs[plc (yT (tb t) k) (xs.map Prod.fst)]? with
  | none => none
  | some x => secN tb dr x.2
def comN (xs : px_NL) (i : Nat) : Option Nat := if stN xs i = 2 then some i else none
def comY (tb : Nat → Nat → Nat) (xs : px_NL) (t k : Nat) : Option Nat := if k = 0 ∨ yB (tb t) k = 0 then none else comN xs (plc (yT (tb t) k) (xs.map Prod.fst))
/-- the reference's rows of what is reached -/
def RR (N : Nat) (σ : px_S) (s : px_RR) : Prop := (∀ i, i < 1536 → gA σ 66 i = bI (s.1 i)) ∧ (∀ i, i < N → gA σ 67 i = bI (s.2.1 i)) ∧ gI σ 98 = bI s.2.2
section MRS
variable {F m t o n w N : Nat} {h : px_H} {σ : px_S} {dr : Nat → Bool} {tb : Nat → Nat → Nat} {s : px_RR} {xs : px_NL}
theorem q_reachSection (hm : m ≤ h.length) (hF : 24 < F) (hb : OB σ t o n (tb t)) (hd : RDr σ dr) (hw : w < 2 ^ 31) (hr : RR N σ s) : ∃ σ', f_M_reachSection F m (nI t) (nI w) (mh m h σ) = some ((), mh m h σ') ∧ RR N σ' (rs1 (secT tb dr t w) s) ∧ FR [98] [] [66] [] σ σ' := by
  have ht := hb.1.1
  have hS := (OB_w hb).1.2.1.2
  unfold f_M_reachSection f_M_reachSection_58
  have no : secT tb dr t w = none → RR N σ (rs1 (secT tb dr t w) s) := fun e => by rw [e]; exact hr
  by_cases c1 : w = 0
  · rw [if_pos (by rw [c1]; decide)]
    exact ⟨σ, rfl, no (by unfold secT; rw [if_neg (fun q => by omega)]), FR_refl σ⟩
  · rw [if_neg (show ¬ nI w ≤ 0 from nI_ge (a := 0) (by omega) (by omega)), e_o hm, bs, O_obj hm hb, xb_mk, e_o hm, bs, O_sec hm hF hb, xb_mk]
    by_cases c2 : oS (tb t) ≤ w
    · rw [if_pos (nI_le (by omega) (by omega))]
      exact ⟨σ, rfl, no (by unfold secT; rw [if_neg (fun q => by omega)]), FR_refl σ⟩
    · rw [if_neg (nI_ge (by omega) (by omega)), e_o hm, bs, O_obj hm hb, xb_mk, e_o hm, bs, O_kept hm hF hb (by omega), xb_mk]
      cases ek : oK (tb t) w with
      | false =>
        rw [if_pos (show bI false = 0 from rfl)]
        exact ⟨σ, rfl, no (by unfold secT; rw [if_neg (fun q => by rw [ek] at q; exact nomatch q.2.2.1)]), FR_refl σ⟩
      | true =>
        rw [if_neg (show ¬ bI true = 0 by decide), Mr65 hm, bs, pk_mul, nI_add, Ma65 hm (by omega), bs, hd _ (by omega)]
        cases ed : dr (24 * t + w) with
        | true =>
          rw [if_neg (show ¬ bI true = 0 by decide)]
          exact ⟨σ, rfl, no (by unfold secT; rw [if_neg (fun q => by rw [ed] at q; exact nomatch q.2.2.2)]), FR_refl σ⟩
        | false =>
          have es : secT tb dr t w = some (24 * t + w) := by unfold secT; rw [if_pos ⟨by omega, by omega, ek, ed⟩]
          rw [if_pos (show bI false = 0 from rfl), Mr66 hm, bs, Ma66 hm (by omega), bs, hr.1 _ (by omega), es]
          cases er : s.1 (24 * t + w) with
          | true =>
            rw [if_neg (show ¬ bI true = 0 by decide)]
            refine ⟨σ, rfl, ?_, FR_refl σ⟩
            show RR N σ (if s.1 (24 * t + w) = true then s else _)
            rw [if_pos er]; exact hr
          | false =>
            rw [if_pos (show bI false = 0 from rfl), bs, show nI 1 &&& 1 = bI true from rfl, Ms66 hm (by omega), bs, show nI 1 = bI true from rfl, e_pZ hm rfl, bs]
            refine ⟨_, rfl, ?_, FR_trans (FR_mono (FR_A σ 66 _) (by decide) (by decide) (by decide) (by decide)) (FR_mono (FR_I _ 98 _) (by decide) (by decide) (by decide) (by decide))⟩
            show RR N _ (if s.1 (24 * t + w) = true then s else (bup s.1 (24 * t + w), s.2.1, true))
            rw [if_neg (by rw [er]; decide)]
            refine ⟨fun i hi => ?_, fun i hi => ?_, ?_⟩
            · show upd (gA σ 66) (24 * t + w) (bI true) i = bI (bup s.1 (24 * t + w) i)
              unfold bup
              by_cases ci : i = 24 * t + w
              · rw [if_pos ci, ci, upd_eq]
              · rw [if_neg ci, upd_ne ci]; exact hr.1 i hi
            · exact hr.2.1 i hi
            · rw [gI_sI, if_pos rfl]
theorem q_isGiven {i : Nat} {x : List Nat × px_NR} (hm : m ≤ h.length) (hr : RL σ xs) (hok : okL xs) (hx : xs[i]? = some x) (hby : ∀ q, x.2.2.2.2.1 = some q → q.1 < 64) : f_M_isGiven F m (nI i) (mh m h σ) = some (bI (decide (x.2.1 = 3) && x.2.2.2.2.1.isNone), mh m h σ) := by
  have hxl : xs.length ≤ 4096 := by have := hr.1.2.1; rw [List.length_map] at this; exact this
  have hi := (List.getElem?_eq_some_iff.mp hx).1
  have rr := hr.2 i x hx
  have h4 := (hok i x hx).1
  unfold f_M_isGiven f_M_isGiven_23 f_M_isGiven_24
  rw [Mr23 hm, bs, Ma23 hm (by omega), bs, rr.1]
  by_cases c1 : x.2.1 = 3
  · rw [if_pos (by rw [c1]), Mr24 hm, bs, Ma24 hm (by omega), bs, decide_eq_true c1, Bool.true_and]
    have hy := rr.2.2.2.1
    cases e : x.2.2.2.2.1 with
    | none =>
      rw [e] at hy
      have hy : gA σ 24 i = Int32.ofInt (-1) := hy
      rw [hy, if_neg (by decide), xz_1]
      rfl
    | some q =>
      rw [e] at hy
      have hy : gA σ 24 i = nI q.1 ∧ gA σ 25 i = nI q.2 := hy
      have := hby q e
      rw [hy.1, if_pos (nI_0le (by omega)), xz_0]
      rfl
  · rw [if_neg (fun q => c1 ((nI_eq (by omega) (by decide)).mp q)), decide_eq_false c1, Bool.false_and, xz_0]
theorem q_reachName_45 {T i : Nat} {tO tn : Nat → Nat} {x : List Nat × px_NR} {q : Nat × Nat} (hm : m ≤ h.length) (hF : 4096 < F) (hB : ∀ t, t < T → OB σ t (tO t) (tn t) (tb t)) (hd : RDr σ dr) (hr : RL σ xs) (hx : xs[i]? = some x) (hby : byP T tb dr x) (hq : x.2.2.2.2.1 = some q) (hs : RR N σ s) : ∃ σ', f_M_reachName_45 F m (nI i) (mh m h σ) = some ((), mh m h σ') ∧ RR N σ' (rs1 (secT tb dr q.1 (wNo dr q.1 (tb q.1) q.2)) s) ∧ FR [98] [] [66] [] σ σ' := by
  have hxl : xs.length ≤ 4096 := by have := hr.1.2.1; rw [List.length_map] at this; exact this
  have hi := (List.getElem?_eq_some_iff.mp hx).1
  have rr := hr.2 i x hx
  unfold byP at hby
  rw [hq] at hby
  obtain ⟨b1, b2, b3, b4, b5, b6⟩ := hby
  have hy := rr.2.2.2.1
  rw [hq] at hy
  have hy : gA σ 24 i = nI q.1 ∧ gA σ 25 i = nI q.2 := hy
  have hb := hB q.1 b1
  obtain ⟨σ', a1, a2, a3⟩ := q_reachSection (F := F) (w := wNo dr q.1 (tb q.1) q.2) (s := s) hm (by omega) hb hd (by have := wNo_lt (k := q.2) (dr := dr) hb; omega) hs
  refine ⟨σ', ?_, a2, a3⟩
  unfold f_M_reachName_45 f_M_reachName_71
  simp only [bs, Mr24 hm, Ma24 hm (show i < 4096 by omega), Mr25 hm, Ma25 hm (show i < 4096 by omega), hy.1, hy.2, e_o hm, O_wNo hm (show 24 < F by omega) hb hd b2.2, xb_mk, a1]
theorem q_reachName {T i : Nat} {tO tn : Nat → Nat} {x : List Nat × px_NR} (hm : m ≤ h.length) (hF : 4096 < F) (hT : T ≤ 64) (hB : ∀ t, t < T → OB σ t (tO t) (tn t) (tb t)) (hd : RDr σ dr) (hr : RL σ xs) (hok : okL xs) (hx : xs[i]? = some x) (hby : byP T tb dr x) (hs : RR N σ s) : ∃ σ', f_M_reachName F m (nI i) (mh m h σ) = some ((), mh m h σ') ∧ RR N σ' (rs1 (secN tb dr x.2) (rn1 (comN xs i) s)) ∧ FR [98] [] [66, 67] [] σ σ' := by
  have hxl : xs.length ≤ 4096 := by have := hr.1.2.1; rw [List.length_map] at this; exact this
  have hi := (List.getElem?_eq_some_iff.mp hx).1
  have h4 := (hok i x hx).1
  have g1 : ∃ σ1, f_M_reachName F m (nI i) (mh m h σ) = f_M_reachName_17 F m (nI i) (mh m h σ1) ∧ RR N σ1 (rn1 (comN xs i) s) ∧ FR [] [] [67] [] σ σ1 := by
    unfold f_M_reachName comN
    rw [Mr23 hm, bs, Ma23 hm (by omega), bs, (hr.2 i x hx).1, stN_at hx]
    by_cases c : x.2.1 = 2
    · rw [if_pos (by rw [c]), if_pos c, Mr67 hm, bs, show nI 1 &&& 1 = bI true from rfl, Ms67 hm (by omega), bs]
      refine ⟨_, rfl, ⟨hs.1, fun j hj => ?_, hs.2.2⟩, FR_A σ 67 _⟩
      show upd (gA σ 67) i (bI true) j = bI (bup s.2.1 i j)
      unfold bup
      by_cases ci : j = i
      · rw [if_pos ci, ci, upd_eq]
      · rw [if_neg ci, upd_ne ci]; exact hs.2.1 j hj
    · rw [if_neg (fun q => c ((nI_eq (by omega) (by decide)).mp q)), if_neg c]
      exact ⟨σ, rfl, hs, FR_refl σ⟩
  obtain ⟨σ1, e1, e2, e3⟩ := g1
  have hB1 : ∀ t, t < T → OB σ1 t (tO t) (tn t) (tb t) := fun t ht => OB_FR (hB t ht) e3 (by decide)
  have hd1 : RDr σ1 dr := fun j hj => by rw [e3.2.2.1 65 (by decide)]; exact hd j hj
  have hr1 : RL σ1 xs := RL_FR hr e3 (by decide) (by decide) (by decide)
  have gv := q_isGiven (F := F) (σ := σ1) hm hr1 hok hx (fun q hq => by
    have := hby
    unfold byP at this
    rw [hq] at this
    have := this.1
    omega)
  rw [e1]
  unfold f_M_reachName_17 f_M_reachName_71
  rw [Mr23 hm, bs, Ma23 hm (by omega), bs, (hr1.2 i x hx).1]
  have fin : secN tb dr x.2 = none → ∃ σ', (some ((), mh m h σ1) : Option (Unit × px_H)) = some ((), mh m h σ') ∧ RR N σ' (rs1 (secN tb dr x.2) (rn1 (comN xs i) s)) ∧ FR [98] [] [66, 67] [] σ σ' := fun e => by
    rw [e]
    exact ⟨σ1, rfl, e2, FR_mono e3 (by decide) (by decide) (by decide) (by decide)⟩
  cases eq : x.2.2.2.2.1 with
  | none =>
    have hb0 := hby
    unfold byP at hb0
    rw [eq] at hb0
    have hb0 : x.2.1 = 0 ∨ x.2.1 = 3 ∨ x.2.1 = 4 := hb0
    have es : secN tb dr x.2 = none := by unfold secN; rw [eq]
    rw [if_neg (fun q => by have := (nI_eq (by omega) (by decide)).mp q; omega)]
    by_cases c3 : x.2.1 = 3
    · rw [bs, Ma23 hm (by omega), bs, (hr1.2 i x hx).1, if_pos (by rw [c3]), e_o hm, bs, gv, xb_mk, eq, decide_eq_true c3, if_neg (by decide)]
      exact fin es
    · rw [bs, Ma23 hm (by omega), bs, (hr1.2 i x hx).1, if_neg (fun q => c3 ((nI_eq (by omega) (by decide)).mp q))]
      exact fin es
  | some q =>
    obtain ⟨σ2, a1, a2, a3⟩ := q_reachName_45 (F := F) (σ := σ1) (s := rn1 (comN xs i) s) hm hF hB1 hd1 hr1 hx hby eq e2
    have fr : FR [98] [] [66, 67] [] σ σ2 := FR_trans (FR_mono e3 (by decide) (by decide) (by decide) (by decide)) (FR_mono a3 (by decide) (by decide) (by decide) (by decide))
    have es : x.2.1 = 1 ∨ x.2.1 = 3 → secN tb dr x.2 = secT tb dr q.1 (wNo dr q.1 (tb q.1) q.2) := fun c => by
      unfold secN
      rw [eq]
      show (if x.2.1 = 1 ∨ x.2.1 = 3 then _ else none) = _
      rw [if_pos c]
    have es2 : ¬ (x.2.1 = 1 ∨ x.2.1 = 3) → secN tb dr x.2 = none := fun c => by
      unfold secN
      rw [eq]
      show (if x.2.1 = 1 ∨ x.2.1 = 3 then _ else none) = _
      rw [if_neg c]
    by_cases c1 : x.2.1 = 1
    · rw [if_pos (by rw [c1]), a1, es (Or.inl c1)]
      exact ⟨σ2, rfl, a2, fr⟩
    · rw [if_neg (fun q => c1 ((nI_eq (by omega) (by decide)).mp q)), bs, Ma23 hm (by omega), bs, (hr1.2 i x hx).1]
      by_cases c3 : x.2.1 = 3
      · rw [if_pos (by rw [c3]), e_o hm, bs, gv, xb_mk, eq, decide_eq_true c3, if_pos (by rfl), a1, es (Or.inr c3)]
        exact ⟨σ2, rfl, a2, fr⟩
      · rw [if_neg (fun q => c3 ((nI_eq (by omega) (by decide)).mp q))]
        exact fin (es2 (fun q => q.elim c1 c3))
end MRS
end
section
/-! reachSites of the reference -/
def WP (T : Nat) (tb : Nat → Nat → Nat) (dr : Nat → Bool) (xs : px_NL) : Prop := T ≤ 64 ∧ okL xs ∧ AL (byP T tb dr) xs ∧ (∀ t k, t < T → 1 ≤ k → k < oM (tb t) → yB (tb t) k ≠ 0 → yT (tb t) k ∈ xs.map Prod.fst) ∧ (xs.map Prod.fst).Nodup
def RWd (σ : px_S) (T : Nat) (tO tn : Nat → Nat) (tb : Nat → Nat → Nat) (dr : Nat → Bool) (xs : px_NL) : Prop := (∀ t, t < T → OB σ t (tO t) (tn t) (tb t)) ∧ RDr σ dr ∧ RL σ xs
theorem RWd_FR {σ σ' : px_S} {I J A B : List Nat} {T : Nat} {tO tn : Nat → Nat} {tb : Nat → Nat → Nat} {dr : Nat → Bool} {xs : px_NL} (h : RWd σ T tO tn tb dr xs) (f : FR I J A B σ σ') (h20 : 20 ∉ I) (hA : ∀ k, k ∈ [6, 9, 17, 21, 22, 23, 24, 25, 26, 27, 28, 65, 73] → k ∉ A) (hB : 30 ∉ B) : RWd σ' T tO tn tb dr xs :=
  ⟨fun t ht => OB_FR (h.1 t ht) f ⟨hA 6 (by decide), hA 9 (by decide), hA 17 (by decide)⟩, fun i hi => by rw [f.2.2.1 65 (hA 65 (by decide))]; exact h.2.1 i hi, RL_FR h.2.2 f h20 (fun k hk => hA k (by revert k; decide)) hB⟩
theorem plc_ix {w : List Nat} {xs : px_NL} (h : w ∈ xs.map Prod.fst) : ∃ x, xs[plc w (xs.map Prod.fst)]? = some x ∧ x.1 = w ∧ idx w 0 (xs.map Prod.fst) = some (plc w (xs.map Prod.fst)) := by
  obtain ⟨i, hi⟩ := Option.isSome_iff_exists.mp (idx_iff.mpr h)
  have h1 := idx_some hi
  have h2 := idx_lt hi
  rw [Nat.sub_zero] at h1
  rw [List.length_map] at h2
  have e : plc w (xs.map Prod.fst) = i := by unfold plc; rw [hi]; rfl
  rw [e]
  have h3 : i < xs.length := by omega
  refine ⟨xs[i], List.getElem?_eq_getElem h3, ?_, hi⟩
  rw [List.getElem?_map, List.getElem?_eq_getElem h3] at h1
  exact Option.some.inj h1
def rsJ (tb : Nat → Nat → Nat) (dr : Nat → Bool) (xs : px_NL) (t i j : Nat) (s : px_RR) : px_RR := if sH (tb t) i j = 0 then s else rs1 (secY tb dr xs t (sY (tb t) i j)) (rn1 (comY tb xs t (sY (tb t) i j)) s)
def rsI (tb : Nat → Nat → Nat) (dr : Nat → Bool) (xs : px_NL) (t i : Nat) (s : px_RR) : px_RR := if isS (tb t) i = true ∧ s.1 (24 * t + oI (tb t) i) = true then itr (rsJ tb dr xs t i) 0 (sN (tb t) i) s else s
def rsT (tb : Nat → Nat → Nat) (dr : Nat → Bool) (xs : px_NL) (t : Nat) (s : px_RR) : px_RR := itr (rsI tb dr xs t) 1 (oS (tb t) - 1) s
section MRT
variable {F m T t o n i N : Nat} {h : px_H} {dr : Nat → Bool} {tb : Nat → Nat → Nat} {tO tn : Nat → Nat} {xs : px_NL} {k8 : Nat → Int32 → Int32 → Int32 → px_H → Option (Unit × px_H)}
theorem q_reachY {k : Nat} {σ : px_S} {s : px_RR} (hm : m ≤ h.length) (hF : 4096 < F) (hW : WP T tb dr xs) (hR : RWd σ T tO tn tb dr xs) (ht : t < T) (h1 : 1 ≤ k) (hk : k < oM (tb t)) (hs : RR N σ s) {K : Unit → px_H → Option (Unit × px_H)} : ∃ σ', ((xo (mh m h σ) 12 m).bind fun _ => xb (f_M_bind F m (nI (tO t)) (nI k) (mh m h σ)) fun t11 ph12 => if t11 = 0 then (xo ph12 12 m).bind fun _ => xb (f_M_whereNow F m (nI t) (nI k) ph12) fun t16 ph17 => (xo ph17 12 m).bind fun _ => xb (f_M_reachSection F m (nI t) t16 ph17) K else (xo ph12 12 m).bind fun _ => xb (f_M_nameOf F m (nI (tO t)) (nI k) ph12) fun t13 ph14 => (xo ph14 12 m).bind fun _ => xb (f_M_reachName F m t13 ph14) K) = K () (mh m h σ') ∧ RR N σ' (rs1 (secY tb dr xs t k) (rn1 (comY tb xs t k) s)) ∧ FR [98] [] [66, 67] [] σ σ' := by
  have hb := hR.1 t ht
  have hB16 := OB_yB (k := k) hb
  rw [e_o hm, bs, O_bind hm (by omega) hb hk, xb_mk]
  by_cases c1 : yB (tb t) k = 0
  · obtain ⟨σ', a1, a2, a3⟩ := q_reachSection (F := F) (w := wNo dr t (tb t) k) (s := s) hm (by omega) hb hR.2.1 (by have := wNo_lt (k := k) (dr := dr) hb; omega) hs
    refine ⟨σ', ?_, ?_, FR_mono a3 (by decide) (by decide) (by decide) (by decide)⟩
    · rw [if_pos (by rw [c1]; rfl), e_o hm, bs, O_wNo hm (by omega) hb hR.2.1 hk, xb_mk, e_o hm, bs, a1, xb_mk]
    · unfold secY comY
      rw [if_neg (by omega), if_pos c1, if_pos (Or.inr c1)]
      exact a2
  · obtain ⟨x, x1, x2, x3⟩ := plc_ix (hW.2.2.2.1 t k ht h1 hk c1)
    obtain ⟨σ', a1, a2, a3⟩ := q_reachName (F := F) (s := s) hm hF hW.1 hR.1 hR.2.1 hR.2.2 hW.2.1 x1 (hW.2.2.1 _ _ x1) hs
    refine ⟨σ', ?_, ?_, a3⟩
    · rw [if_neg (show ¬ nI (yB (tb t) k) = 0 from fun q => c1 ((nI_eq (b := 0) (by omega) (by decide)).mp q)), e_o hm, bs, O_name hm hF hb hR.2.2 h1 hk c1, xb_mk, x3, show tdA (some (plc (yT (tb t) k) (xs.map Prod.fst))) = nI (plc (yT (tb t) k) (xs.map Prod.fst)) from rfl, e_o hm, bs, a1, xb_mk]
    · unfold secY comY
      rw [if_neg (by omega), if_neg c1, if_neg (fun q => q.elim (fun q => by omega) c1), x1]
      exact a2
theorem q_rS_52 (hm : m ≤ h.length) (hF : 4096 < F) (hW : WP T tb dr xs) (ht : t < T) (h1 : 1 ≤ i) (hi : i < oS (tb t)) (hs : isS (tb t) i = true) : ∀ (c j g : Nat) (σ : px_S) (s : px_RR), j + c = sN (tb t) i → c < g → RWd σ T tO tn tb dr xs → RR N σ s → ∃ σ', f_M_reachSites_52 F k8 g m (nI t) (nI (tO t)) (nI i) (nI j) (mh m h σ) = k8 m (nI t) (nI (tO t)) (nI (i + 1)) (mh m h σ') ∧ RR N σ' (itr (rsJ tb dr xs t i) j c s) ∧ FR [98] [] [66, 67] [] σ σ' := by
  intro c
  induction c with
  | zero =>
    intro j g σ s hj hg hR hS
    obtain ⟨g, rfl⟩ : ∃ x, g = x + 1 := ⟨g - 1, by omega⟩
    have hb := hR.1 t ht
    have hz := (eSit_0 hb.2.2.2.1 h1 hi hs).2.2.2.1
    have hn := hb.2.2.1
    have hsz : sN (tb t) i < 2 ^ 30 := by unfold sN; omega
    unfold f_M_reachSites_52 f_M_reachSites_153
    rw [e_o hm, bs, O_sN hm (by omega) hb h1 hi hs, xb_mk, if_pos (nI_le (by omega) (by omega)), nI_add]
    exact ⟨σ, rfl, hS, FR_refl σ⟩
  | succ c ih =>
    intro j g σ s hj hg hR hS
    obtain ⟨g, rfl⟩ : ∃ x, g = x + 1 := ⟨g - 1, by omega⟩
    have hb := hR.1 t ht
    have he := eSit_0 hb.2.2.2.1 h1 hi hs
    have hz := he.2.2.2.1
    have hn := hb.2.2.1
    have hsz : sN (tb t) i < 2 ^ 30 := by unfold sN; omega
    have hp := OB_sP hb h1 hi hs (show j < sN (tb t) i by omega)
    have hok := sOK_0w (he.2.2.2.2.2 j (by omega))
    have hM := w2_M (OB_w hb)
    have hsH : sH (tb t) i j < 2 ^ 32 := by
      unfold sH
      exact le_lt (OB_lt hb) _ 4
    have step : ∀ σ1 s1, FR [98] [] [66, 67] [] σ σ1 → RR N σ1 s1 → rsJ tb dr xs t i j s = s1 → ∃ σ', f_M_reachSites_52 F k8 g m (nI t) (nI (tO t)) (nI i) (nI (j + 1)) (mh m h σ1) = k8 m (nI t) (nI (tO t)) (nI (i + 1)) (mh m h σ') ∧ RR N σ' (itr (rsJ tb dr xs t i) j (c + 1) s) ∧ FR [98] [] [66, 67] [] σ σ' := by
      intro σ1 s1 a1 a2 a3
      obtain ⟨σ', j1, j2, j3⟩ := ih (j + 1) g σ1 s1 (by omega) (by omega) (RWd_FR hR a1 (by decide) (by decide) (by decide)) a2
      rw [itr_s, a3]
      exact ⟨σ', j1, j2, FR_trans a1 j3⟩
    unfold f_M_reachSites_52 f_M_reachSites_147
    rw [e_o hm, bs, O_sN hm (by omega) hb h1 hi hs, xb_mk, if_neg (nI_ge (by omega) (by omega)), e_o hm, bs, O_site hm (by omega) hb hi, xb_mk, e_o hm, bs, nI_add, O_sY hm (by omega) hb hp, xb_mk, e_o hm, bs, O_site hm (by omega) hb hi, xb_mk, e_o hm, bs, nI_add, O_sH hm (by omega) hb hp, xb_mk, lN_i, nI_add]
    by_cases c1 : sH (tb t) i j = 0
    · rw [if_pos (by rw [c1])]
      exact step σ s (FR_refl σ) hS (by unfold rsJ; rw [if_pos c1])
    · rw [if_neg (fun q => c1 ((lEQ (by omega) (by decide)).mp q))]
      have hst : rsJ tb dr xs t i j s = rs1 (secY tb dr xs t (sY (tb t) i j)) (rn1 (comY tb xs t (sY (tb t) i j)) s) := by unfold rsJ; rw [if_neg c1]
      by_cases c2 : sY (tb t) i j = 0
      · rw [if_pos (by rw [c2]; rfl)]
        refine step σ s (FR_refl σ) hS ?_
        rw [hst]
        unfold secY comY
        rw [if_pos c2, if_pos (Or.inl c2)]
        rfl
      · rw [if_neg (show ¬ nI (sY (tb t) i j) = 0 from fun q => c2 ((nI_eq (b := 0) (by omega) (by decide)).mp q))]
        obtain ⟨σ1, b1, b2, b3⟩ := q_reachY (F := F) (k := sY (tb t) i j) (s := s) (K := fun _ ph => f_M_reachSites_52 F k8 g m (nI t) (nI (tO t)) (nI i) (nI (j + 1)) ph) hm hF hW hR ht (by omega) hok.2.1 hS
        rw [b1]
        exact step σ1 _ b3 b2 hst
theorem q_rS_8 (hm : m ≤ h.length) (hF : 65536 < F) (hW : WP T tb dr xs) (ht : t < T) : ∀ (c i g : Nat) (σ : px_S) (s : px_RR), 1 ≤ i → i + c = oS (tb t) → c < g → RWd σ T tO tn tb dr xs → RR N σ s → ∃ σ', f_M_reachSites_8 F g m (nI t) (nI (tO t)) (nI i) (mh m h σ) = some ((), mh m h σ') ∧ RR N σ' (itr (rsI tb dr xs t) i c s) ∧ FR [98] [] [66, 67] [] σ σ' := by
  intro c
  induction c with
  | zero =>
    intro i g σ s h1 hi hg hR hS
    obtain ⟨g, rfl⟩ : ∃ x, g = x + 1 := ⟨g - 1, by omega⟩
    have hb := hR.1 t ht
    have hs24 := (OB_w hb).1.2.1.2
    unfold f_M_reachSites_8 f_M_reachSites_159
    rw [e_o hm, bs, O_sec hm (by omega) hb, xb_mk, if_pos (nI_le (by omega) (by omega))]
    exact ⟨σ, rfl, hS, FR_refl σ⟩
  | succ c ih =>
    intro i g σ s h1 hi hg hR hS
    obtain ⟨g, rfl⟩ : ∃ x, g = x + 1 := ⟨g - 1, by omega⟩
    have hb := hR.1 t ht
    have hs24 := (OB_w hb).1.2.1.2
    have ht64 := hb.1.1
    have hiS : i < oS (tb t) := by omega
    have step : ∀ σ1 s1, FR [98] [] [66, 67] [] σ σ1 → RR N σ1 s1 → rsI tb dr xs t i s = s1 → ∃ σ', f_M_reachSites_8 F g m (nI t) (nI (tO t)) (nI (i + 1)) (mh m h σ1) = some ((), mh m h σ') ∧ RR N σ' (itr (rsI tb dr xs t) i (c + 1) s) ∧ FR [98] [] [66, 67] [] σ σ' := by
      intro σ1 s1 a1 a2 a3
      obtain ⟨σ', j1, j2, j3⟩ := ih (i + 1) g σ1 s1 (by omega) (by omega) (by omega) (RWd_FR hR a1 (by decide) (by decide) (by decide)) a2
      rw [itr_s, a3]
      exact ⟨σ', j1, j2, FR_trans a1 j3⟩
    unfold f_M_reachSites_8 f_M_reachSites_153
    rw [e_o hm, bs, O_sec hm (by omega) hb, xb_mk, if_neg (nI_ge (by omega) (by omega)), e_o hm, bs, O_isS hm (by omega) hb hiS, xb_mk, nI_add]
    cases es : isS (tb t) i with
    | false =>
      rw [if_pos (show bI false = 0 from rfl)]
      exact step σ s (FR_refl σ) hS (by unfold rsI; rw [if_neg (fun q => by rw [es] at q; exact nomatch q.1)])
    | true =>
      have he := eSit_0 hb.2.2.2.1 h1 hiS es
      have ho := he.1
      rw [if_neg (show ¬ bI true = 0 by decide), Mr66 hm, bs, e_o hm, bs, O_info hm (by omega) hb hiS, xb_mk, lN_i, pk_mul, nI_add, Ma66 hm (by omega), bs, hS.1 _ (by omega)]
      cases er : s.1 (24 * t + oI (tb t) i) with
      | false =>
        rw [if_pos (show bI false = 0 from rfl)]
        exact step σ s (FR_refl σ) hS (by unfold rsI; rw [if_neg (fun q => by rw [er] at q; exact nomatch q.2)])
      | true =>
        rw [if_neg (show ¬ bI true = 0 by decide)]
        have hz := he.2.2.2.1
        have hn := hb.2.2.1
        have hsz : sN (tb t) i < 65536 := by unfold sN; omega
        obtain ⟨σ1, b1, b2, b3⟩ := q_rS_52 (F := F) (k8 := f_M_reachSites_8 F g) (σ := σ) (s := s) hm (by omega) hW ht h1 hiS es (sN (tb t) i) 0 F (by omega) (by omega) hR hS
        rw [b1]
        exact step σ1 _ b3 b2 (by unfold rsI; rw [if_pos ⟨es, er⟩])
theorem q_reachSites {σ : px_S} {s : px_RR} (hm : m ≤ h.length) (hF : 65536 < F) (hW : WP T tb dr xs) (ht : t < T) (hR : RWd σ T tO tn tb dr xs) (hS : RR N σ s) : ∃ σ', f_M_reachSites F m (nI t) (mh m h σ) = some ((), mh m h σ') ∧ RR N σ' (rsT tb dr xs t s) ∧ FR [98] [] [66, 67] [] σ σ' := by
  have hb := hR.1 t ht
  have hs24 := (OB_w hb).1.2.1
  unfold f_M_reachSites rsT
  rw [e_o hm, bs, O_obj hm hb, xb_mk]
  exact q_rS_8 hm hF hW ht (oS (tb t) - 1) 1 F σ s (by omega) (by omega) (by omega) hR hS
end MRT
end
