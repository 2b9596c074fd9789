/-! link of the reference: names told, objects taken, own names -/
abbrev taA : List Nat := 19 :: tkA
theorem frK_FR {σ σ' : px_S} (f : frK σ σ') : FR tkI [] taA [30] σ σ' := ⟨fun k hk => f.1 k (fun e => hk (by rw [e]; decide)) (fun e => hk (by rw [e]; decide)), fun k _ => f.2.1 k, fun k hk => f.2.2.1 k (fun e => hk (by rw [e]; decide)) (fun e => hk (by rw [e]; decide)) (fun e => hk (by rw [e]; decide)) (fun e => hk (by rw [e]; decide)) (fun e => hk (by rw [e]; decide)) (fun e => hk (by rw [e]; decide)) (fun e => hk (by rw [e]; decide)), fun k hk => f.2.2.2 k (fun e => hk (by rw [e]; decide))⟩
/-- what was taken, and the names -/
def LM (fs : px_FS) (s : px_TK) (xs : px_NL) (σ : px_S) : Prop := gI σ 14 = nI s.2.2.1.length ∧ RF σ fs ∧ RL σ xs ∧ RO σ s.1.2.2.1 ∧ RDr σ s.2.1.1 ∧ (gI σ 69 = nI s.2.1.2.1 ∧ RSg σ s.2.1.2.2) ∧ (∀ i q, s.2.2.1[i]? = some q → gA σ 17 i = nI q) ∧ ((∀ q, q < 64 → gA σ 18 q = bI (decide (q ∈ s.2.2.1))) ∧ ∀ f, f < fs.length → gA σ 19 f = bI true) ∧ ∀ q, q < 64 → gA σ 40 q = tdA (s.2.2.2 q)
abbrev lmI : List Nat := [5, 14, 20, 48, 69, 70]
abbrev lmA : List Nat := [6, 8, 9, 10, 11, 12, 17, 18, 19, 21, 22, 23, 24, 25, 26, 27, 28, 40, 49, 65, 71, 72, 73]
theorem LM_FR {fs : px_FS} {s : px_TK} {xs : px_NL} {σ σ' : px_S} {I J A B : List Nat} (h : LM fs s xs σ) (f : FR I J A B σ σ') (hI : ∀ k, k ∈ lmI → k ∉ I) (hA : ∀ k, k ∈ lmA → k ∉ A) (hB : 30 ∉ B) : LM fs s xs σ' := by
  obtain ⟨h1, h2, h3, h4, h5, ⟨h6, h7⟩, h8, h9, h10⟩ := h
  refine ⟨(f.1 14 (hI 14 (by decide))).trans h1, RF_FR h2 f (hI 5 (by decide)) ⟨hA 6 (by decide), hA 8 (by decide), hA 9 (by decide), hA 10 (by decide), hA 11 (by decide), hA 12 (by decide)⟩, RL_FR h3 f (hI 20 (by decide)) (fun k hk => hA k (by revert k; decide)) hB, RO_FR h4 f (hI 48 (by decide)) (hA 49 (by decide)), fun i hi => by rw [f.2.2.1 65 (hA 65 (by decide))]; exact h5 i hi, ⟨(f.1 69 (hI 69 (by decide))).trans h6, (f.1 70 (hI 70 (by decide))).trans h7.1, h7.2.1, fun i w hw => ?_⟩, fun i q hq => by rw [f.2.2.1 17 (hA 17 (by decide))]; exact h8 i q hq, ⟨fun q hq => by rw [f.2.2.1 18 (hA 18 (by decide))]; exact h9.1 q hq, fun q hq => by rw [f.2.2.1 19 (hA 19 (by decide))]; exact h9.2 q hq⟩, fun q hq => by rw [f.2.2.1 40 (hA 40 (by decide))]; exact h10 q hq⟩
  rw [f.2.2.1 71 (hA 71 (by decide)), f.2.2.1 72 (hA 72 (by decide)), f.2.2.1 6 (hA 6 (by decide))]
  exact h7.2.2 i w hw
section MLT
variable {F m : Nat} {h : px_H} {a : Int32} {fs : px_FS} {gs : List (List Nat × Int64)} {ws : List (List Nat)} {s : px_TK}
theorem q_ln_92 {σ : px_S} (hm : m ≤ h.length) (hF : 65536 < F) (hB : LB σ) (hd : RDr σ (fun _ => false)) (hr : RF σ fs) (hg : RG σ gs) (hw : RW σ ws) (hc : RC σ) (h3 : ∀ k, isB (gA σ 3 k)) (h4 : ∃ n, n ≤ 65536 ∧ gI σ 4 = nI n) (es : s = taL fs (xs0 gs ws) (od0 gs)) : ∃ σ', f_M_link_92 F m a (mh m h σ) = f_M_link_111 F m a (mh m h σ') ∧ gI σ' 13 = nI s.1.1 ∧ LM fs s (if s.1.1 = 0 then ownL s.1.2.1 else s.1.2.1) σ' ∧ BK fs s ∧ (∀ k, isB (gA σ' 3 k)) ∧ (∃ n, n ≤ 65536 ∧ gI σ' 4 = nI n) ∧ FR tkI [] taA [30] σ σ' := by
  obtain ⟨hB1, hB2, hB3, hB4, hB5, hB6, hB7, hB8, hB9⟩ := hB
  have hgl : gs.length ≤ 16 := by have := hg.2.1.1; rw [List.length_map] at this; exact this
  have hwl : ws.length ≤ 16 := hw.2.1
  obtain ⟨hS, _⟩ := ST0_xs hgl hwl
  obtain ⟨σ1, a1, a2, a3, a4⟩ := q_tellNames (F := F) (h := h) hm (by omega) hg hw hB3 hB4
  have f1 := frK_FR a4
  have a2 : RL σ1 (xs0 gs ws) := a2
  have a3 : RO σ1 (od0 gs) := a3
  have e13 : gI σ1 13 = nI 0 := (a4.1 13 (by decide) (by decide)).trans hB1
  have hr1 : RF σ1 fs := by
    have hFK : FR [20, 48] [] [21, 22, 23, 24, 28, 73, 49] [30] σ σ1 := ⟨fun k hk => a4.1 k (fun e => hk (by rw [e]; decide)) (fun e => hk (by rw [e]; decide)), fun k _ => a4.2.1 k, fun k hk => a4.2.2.1 k (fun e => hk (by rw [e]; decide)) (fun e => hk (by rw [e]; decide)) (fun e => hk (by rw [e]; decide)) (fun e => hk (by rw [e]; decide)) (fun e => hk (by rw [e]; decide)) (fun e => hk (by rw [e]; decide)) (fun e => hk (by rw [e]; decide)), fun k hk => a4.2.2.2 k (fun e => hk (by rw [e]; decide))⟩
    exact RF_FR hr hFK (by decide) (by decide)
  have g3 : gA σ1 3 = gA σ 3 := a4.2.2.1 3 (by decide) (by decide) (by decide) (by decide) (by decide) (by decide) (by decide)
  have g65 : gA σ1 65 = gA σ 65 := a4.2.2.1 65 (by decide) (by decide) (by decide) (by decide) (by decide) (by decide) (by decide)
  have hB3' : ∀ k, isB (gA σ1 3 k) := fun k => by rw [g3]; exact h3 k
  obtain ⟨σ2, b1, b2, b3, b4, b5, b6⟩ := q_takeAll (F := F) (h := h) (fs := fs) hm hF hr1 hB3' e13 a2 (fun i x hx => (hS.1 i x hx).1) hS.2.2.2.1 a3 hS.2.2.2.2 (fun i hi => by rw [g65]; exact hd i hi) ((a4.1 69 (by decide) (by decide)).trans hB5) ((a4.1 70 (by decide) (by decide)).trans hB6) ((a4.1 14 (by decide) (by decide)).trans hB2)
  rw [← es] at b2 b3
  obtain ⟨k1, k2, k3, k4, k5, k6, k7, k8, k9, k10, k11⟩ := b2
  have hB32 := OU_3 k4 hB3'
  have h42 : ∃ n, n ≤ 65536 ∧ gI σ2 4 = nI n := by
    obtain ⟨n, n1, n2⟩ := h4
    cases eo : s.1.2.2.2 with
    | none => exact ⟨n, n1, (k4.1 eo).1.trans ((a4.1 4 (by decide) (by decide)).trans n2)⟩
    | some w =>
      have := k4.2 w eo
      exact ⟨w.length, this.2.1, this.1⟩
  have fT : FR tkI [] taA [30] σ σ2 := FR_trans f1 b6
  have hLM : LM fs s s.1.2.1 σ2 := ⟨k8, b4, k2, k3, k5, ⟨k6, k7⟩, k9, ⟨k10, b5⟩, k11⟩
  unfold f_M_link_92
  rw [e_o hm, bs, a1, xb_mk, e_o hm, bs, b1, xb_mk, Mg13 hm, bs, k1]
  by_cases c : s.1.1 = 0
  · rw [if_pos (by rw [c]; rfl), if_pos c]
    have hc2 : RC σ2 := RC_FR hc fT (by decide) (by decide)
    obtain ⟨σ3, d1, d2, d3⟩ := q_ownNames (F := F) (h := h) hm (by omega) k2 b3.2.1 hc2
    refine ⟨σ3, ?_, (d3.1 13 (by decide)).trans k1, ?_, b3, fun k => by rw [d3.2.2.1 3 (by decide)]; exact hB32 k, ?_, FR_trans fT (FR_mono d3 (by decide) (by decide) (by decide) (by decide))⟩
    · rw [e_o hm, bs, d1, xb_mk]
    · refine ⟨(d3.1 14 (by decide)).trans k8, RF_FR b4 d3 (by decide) (by decide), d2, RO_FR k3 d3 (by decide) (by decide), fun i hi => by rw [d3.2.2.1 65 (by decide)]; exact k5 i hi, ⟨(d3.1 69 (by decide)).trans k6, (d3.1 70 (by decide)).trans k7.1, k7.2.1, fun i w hw => ?_⟩, fun i q hq => by rw [d3.2.2.1 17 (by decide)]; exact k9 i q hq, ⟨fun q hq => by rw [d3.2.2.1 18 (by decide)]; exact k10 q hq, fun q hq => by rw [d3.2.2.1 19 (by decide)]; exact b5 q hq⟩, fun q hq => by rw [d3.2.2.1 40 (by decide)]; exact k11 q hq⟩
      rw [d3.2.2.1 71 (by decide), d3.2.2.1 72 (by decide), d3.2.2.1 6 (by decide)]
      exact k7.2.2 i w hw
    · obtain ⟨n, n1, n2⟩ := h42
      exact ⟨n, n1, (d3.1 4 (by decide)).trans n2⟩
  · have hs2 := b3.1
    rw [if_neg (show ¬ nI s.1.1 = 0 from fun q => c ((nI_eq (b := 0) (by omega) (by decide)).mp q)), if_neg c]
    exact ⟨σ2, rfl, k1, hLM, b3, hB32, h42, fT⟩
end MLT
