/-! take of the reference -/
/-- what take leaves as it was -/
def frY (σ σ' : px_S) : Prop := (∀ k, k ≠ 4 → k ≠ 13 → k ≠ 14 → k ≠ 20 → k ≠ 48 → k ≠ 69 → k ≠ 70 → gI σ' k = gI σ k) ∧ (∀ k, gJ σ' k = gJ σ k) ∧ (∀ k, (k < 21 ∨ 28 < k) → k ≠ 3 → k ≠ 17 → k ≠ 18 → k ≠ 49 → k ≠ 65 → k ≠ 71 → k ≠ 72 → k ≠ 73 → gA σ' k = gA σ k) ∧ (∀ k, k ≠ 30 → gB σ' k = gB σ k)
section MTT
variable {F m o n q T dm an : Nat} {h : px_H} {dr : Nat → Bool} {b : Nat → Nat} {σ0 σ : px_S} {sg : List (List Nat)} {xs : px_NL} {od : List Nat} {bl : Option (List Nat)}
theorem q_take (hm : m ≤ h.length) (hF : 65536 < F) (he : eObj b n = 0) (hn : o + n ≤ 65536) (hB : ∀ k, isB (gA σ 6 k)) (h3 : ∀ k, isB (gA σ 3 k)) (hcb : cb (gA σ 6) o n = b) (hT : T < 64) (h14 : gI σ 14 = nI T) (hq : q < 64) (h9 : gA σ 9 q = nI o) (hd : RDr σ dr) (h69 : gI σ 69 = nI dm) (hsg : RSg σ sg) (hsl : sg.length + 24 ≤ 1536) (h13 : gI σ 13 = nI an) (han : an ≤ 2) (hr : RL σ xs) (hok : okL xs) (hl : xs.length + 64 ≤ 4096) (ho : RO σ od) (hol : od.length + 64 ≤ 4096) (hou : OU σ0 σ bl) (D : (Nat → Bool) × Nat × List (List Nat)) (hD : D = itr (dg1 T b) 1 (oS b - 1) (dr, dm, sg)) (S : px_TS) (hS : S = itr (tk1 D.1 T b) 1 (oM b - 1) (an, xs, od, bl)) : ∃ σ', f_M_take F m (nI q) (mh m h σ) = some ((), mh m h σ') ∧ gI σ' 14 = nI (T + 1) ∧ gA σ' 17 = upd (gA σ 17) T (nI q) ∧ gA σ' 18 = upd (gA σ 18) q (nI 1) ∧ RDr σ' D.1 ∧ gI σ' 69 = nI D.2.1 ∧ RSg σ' D.2.2 ∧ gI σ' 13 = nI S.1 ∧ RL σ' S.2.1 ∧ okL S.2.1 ∧ RO σ' S.2.2.1 ∧ OU σ0 σ' S.2.2.2 ∧ frY σ σ' := by
  obtain ⟨hw, hy, hg⟩ := eObj_0 he
  have hS1 := hw.1.2.1.1
  have hS24 := hw.1.2.1.2
  have hM64 := w2_M hw
  obtain ⟨σ1, hσ1⟩ : ∃ x, x = sI (sA (sA σ 17 (upd (gA σ 17) T (nI q))) 18 (upd (gA σ 18) q (nI 1))) 14 (nI (T + 1)) := ⟨_, rfl⟩
  have gIo : ∀ k, k ≠ 14 → gI σ1 k = gI σ k := fun k hk => by rw [hσ1, gI_sI, if_neg hk, gI_sA, gI_sA]
  have gAo : ∀ k, k ≠ 17 → k ≠ 18 → gA σ1 k = gA σ k := fun k a c => by rw [hσ1, gA_sI, gA_sA, if_neg c, gA_sA, if_neg a]
  have gBo : ∀ k, gB σ1 k = gB σ k := fun k => by rw [hσ1]; rfl
  have g14 : gI σ1 14 = nI (T + 1) := by rw [hσ1, gI_sI, if_pos rfl]
  have g17 : gA σ1 17 = upd (gA σ 17) T (nI q) := by rw [hσ1]; rfl
  have g18 : gA σ1 18 = upd (gA σ 18) q (nI 1) := by rw [hσ1]; rfl
  have ht1 : RTa σ1 T o := ⟨hT, q, hq, by rw [g17, upd_eq], by rw [gAo 9 (by decide) (by decide)]; exact h9⟩
  have g6 : gA σ1 6 = gA σ 6 := gAo 6 (by decide) (by decide)
  obtain ⟨σ2, d1, d2, d3, d4, d5⟩ := q_dG_8 (F := F) (o := o) (t := T) hm hF hT hw hn hg (oS b - 1) 1 F σ1 (dr, dm, sg) (by rw [g6]; exact hB) (by rw [g6]; exact hcb) (by omega) (by omega) (by omega) (by intro i hi; rw [gAo 65 (by decide) (by decide)]; exact hd i hi) ((gIo 69 (by decide)).trans h69) (RSg_eq hsg (gIo 70 (by decide)) (gAo 71 (by decide) (by decide)) (gAo 72 (by decide) (by decide)) g6) (by show sg.length + _ ≤ _; omega)
  rw [← hD] at d2 d3 d4
  have a6 : gA σ2 6 = gA σ 6 := (d5.2.2.1 6 (by decide) (by decide) (by decide)).trans g6
  have a3 : gA σ2 3 = gA σ 3 := (d5.2.2.1 3 (by decide) (by decide) (by decide)).trans (gAo 3 (by decide) (by decide))
  have a9 : gA σ2 9 = gA σ 9 := (d5.2.2.1 9 (by decide) (by decide) (by decide)).trans (gAo 9 (by decide) (by decide))
  have a17 : gA σ2 17 = upd (gA σ 17) T (nI q) := (d5.2.2.1 17 (by decide) (by decide) (by decide)).trans g17
  have aA : ∀ k, k ≠ 17 → k ≠ 18 → k ≠ 65 → k ≠ 71 → k ≠ 72 → gA σ2 k = gA σ k := fun k a b c d e => (d5.2.2.1 k c d e).trans (gAo k a b)
  have aI : ∀ k, k ≠ 14 → k ≠ 69 → k ≠ 70 → gI σ2 k = gI σ k := fun k a b c => (d5.1 k b c).trans (gIo k a)
  have aB : ∀ k, gB σ2 k = gB σ k := fun k => (d5.2.2.2 k).trans (gBo k)
  have hr2 : RL σ2 xs := ⟨RNm_eq hr.1 (aI 20 (by decide) (by decide) (by decide)) (aA 21 (by decide) (by decide) (by decide) (by decide) (by decide)) (aA 22 (by decide) (by decide) (by decide) (by decide) (by decide)), fun i x hx => rrec_eq (hr.2 i x hx) (fun k hk => by rw [aA k (by omega) (by omega) (by omega) (by omega) (by omega)]) (by rw [aB])⟩
  have ho2 : RO σ2 od := ⟨(aI 48 (by decide) (by decide) (by decide)).trans ho.1, ho.2.1, fun i d hi => by rw [aA 49 (by decide) (by decide) (by decide) (by decide) (by decide)]; exact ho.2.2 i d hi⟩
  have hou2 : OU σ0 σ2 bl := by
    have e4 := aI 4 (by decide) (by decide) (by decide)
    unfold OU ROu at hou ⊢
    rw [e4, a3]; exact hou
  obtain ⟨σ3, k1, k2, k3, k4, k5, k6, k7⟩ := q_take_44 (F := F) (o := o) (t := T) (dr := D.1) (σ0 := σ0) hm hF hw hn hy (oM b - 1) 1 F σ2 (an, xs, od, bl) (by rw [a6]; exact hB) (by rw [a3]; exact h3) (by rw [a6]; exact hcb) (by omega) rfl (by decide) (by omega) ⟨hT, q, hq, by rw [a17, upd_eq], by rw [a9]; exact h9⟩ d2 ((aI 13 (by decide) (by decide) (by decide)).trans h13) han hr2 hok (by show xs.length + _ ≤ _; omega) ho2 (by show od.length + _ ≤ _; omega) hou2
  rw [← hS] at k2 k3 k4 k5 k6
  have bA : ∀ k, (k < 21 ∨ 28 < k) → k ≠ 3 → k ≠ 73 → k ≠ 49 → gA σ3 k = gA σ2 k := k7.2.2.1
  refine ⟨σ3, ?_, ?_, ?_, ?_, ?_, ?_, ?_, k2, k3, k4, k5, k6, ⟨fun k a1 a2 a3 a4 a5 a6 a7 => (k7.1 k a1 a2 a4 a5).trans (aI k a3 a6 a7), fun k => (k7.2.1 k).trans ((d5.2.1 k).trans (by rw [hσ1]; rfl)), fun k a1 a2 a3 a4 a5 a6 a7 a8 a9 => (bA k a1 a2 a9 a5).trans (aA k a3 a4 a6 a7 a8), fun k a => (k7.2.2.2 k a).trans (aB k)⟩⟩
  · unfold f_M_take f_M_dropGroups
    rw [Mg14 hm, bs, h14, Mr17 hm, bs, Ms17 hm hT, bs, Mr18 hm, bs, show nI 1 &&& 1 = nI 1 from rfl, Ms18 hm hq, bs, Mg14 hm, bs, gI_sA, gI_sA, h14, nI_add, Mp14 hm, bs]
    rw [show mh m h (sI (sA (sA σ 17 (upd (gA σ 17) T (nI q))) 18 (upd (gA (sA σ 17 (upd (gA σ 17) T (nI q))) 18) q (nI 1))) 14 (nI (T + 1))) = mh m h σ1 by rw [hσ1]; rfl, e_o hm, bs, bs, q_object hm ht1, xb_mk, d1, xb_mk, Mr9 hm, bs, Ma9 hm hq, bs, a9, h9]
    exact k1
  · rw [k7.1 14 (by decide) (by decide) (by decide) (by decide), d5.1 14 (by decide) (by decide), g14]
  · rw [bA 17 (by decide) (by decide) (by decide) (by decide), a17]
  · rw [bA 18 (by decide) (by decide) (by decide) (by decide), d5.2.2.1 18 (by decide) (by decide) (by decide), g18]
  · intro i hi
    rw [bA 65 (by decide) (by decide) (by decide) (by decide)]; exact d2 i hi
  · rw [k7.1 69 (by decide) (by decide) (by decide) (by decide), d3]
  · exact RSg_eq d4 (k7.1 70 (by decide) (by decide) (by decide) (by decide)) (bA 71 (by decide) (by decide) (by decide) (by decide)) (bA 72 (by decide) (by decide) (by decide) (by decide)) (bA 6 (by decide) (by decide) (by decide) (by decide))
end MTT
