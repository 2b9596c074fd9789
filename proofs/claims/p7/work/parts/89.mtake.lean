/-! take of the reference: its symbols -/
abbrev px_TS : Type := Nat × px_NL × List Nat × Option (List Nat)
def tk1 (dr : Nat → Bool) (t : Nat) (b : Nat → Nat) (k : Nat) (s : px_TS) : px_TS :=
  if yB b k = 0 then s
  else if s.1 = 1 then (1, entL (yT b k) s.2.1, s.2.2.1, s.2.2.2)
  else if (comS dr t b k (s.2.1, s.2.2.1)).1 = true then (s.1, (comS dr t b k (s.2.1, s.2.2.1)).2.1, (comS dr t b k (s.2.1, s.2.2.1)).2.2, s.2.2.2)
  else (1, (comS dr t b k (s.2.1, s.2.2.1)).2.1, (comS dr t b k (s.2.1, s.2.2.1)).2.2, some (yT b k))
/-- OUT since σ0 -/
def OU (σ0 σ : px_S) (bl : Option (List Nat)) : Prop := (bl = none → gI σ 4 = gI σ0 4 ∧ gA σ 3 = gA σ0 3) ∧ ∀ w, bl = some w → ROu σ w.length (lb w)
def frW (σ σ' : px_S) : Prop := (∀ q, q ≠ 4 → q ≠ 13 → q ≠ 20 → q ≠ 48 → gI σ' q = gI σ q) ∧ (∀ q, gJ σ' q = gJ σ q) ∧ (∀ q, (q < 21 ∨ 28 < q) → q ≠ 3 → q ≠ 73 → q ≠ 49 → gA σ' q = gA σ q) ∧ (∀ q, q ≠ 30 → gB σ' q = gB σ q)
theorem frW_refl (σ : px_S) : frW σ σ := ⟨fun _ _ _ _ _ => rfl, fun _ => rfl, fun _ _ _ _ _ => rfl, fun _ _ => rfl⟩
theorem frW_trans {σ σ1 σ2 : px_S} (h : frW σ σ1) (g : frW σ1 σ2) : frW σ σ2 := ⟨fun k a b c d => (g.1 k a b c d).trans (h.1 k a b c d), fun k => (g.2.1 k).trans (h.2.1 k), fun k a1 a2 a3 a4 => (g.2.2.1 k a1 a2 a3 a4).trans (h.2.2.1 k a1 a2 a3 a4), fun k a => (g.2.2.2 k a).trans (h.2.2.2 k a)⟩
theorem frW_M {σ σ' : px_S} (h : frM σ σ') : frW σ σ' := ⟨fun k _ _ c d => h.1 k c d, h.2.1, fun k a _ c d => h.2.2.1 k a c d, h.2.2.2⟩
theorem OU_M {σ0 σ σ' : px_S} {bl : Option (List Nat)} (h : OU σ0 σ bl) (f : frM σ σ') : OU σ0 σ' bl := by
  have e4 := f.1 4 (by decide) (by decide)
  have e3 := f.2.2.1 3 (by decide) (by decide) (by decide)
  unfold OU ROu at h ⊢
  rw [e4, e3]; exact h
section MTS
variable {F m o n t : Nat} {h : px_H} {dr : Nat → Bool} {b : Nat → Nat} {σ0 : px_S}
theorem q_take_44 (hm : m ≤ h.length) (hF : 65536 < F) (hw : w2 b n) (hn : o + n ≤ 65536) (hy : ∀ k, 1 ≤ k → k < oM b → yOK b k = true) : ∀ (c k f : Nat) (σ : px_S) (s : px_TS), (∀ k, isB (gA σ 6 k)) → (∀ k, isB (gA σ 3 k)) → cb (gA σ 6) o n = b → 1 ≤ k → c = oM b - k → k < 2 ^ 30 → c < f → RTa σ t o → RDr σ dr → gI σ 13 = nI s.1 → s.1 ≤ 2 → RL σ s.2.1 → okL s.2.1 → s.2.1.length + c ≤ 4096 → RO σ s.2.2.1 → s.2.2.1.length + c ≤ 4096 → OU σ0 σ s.2.2.2 → ∃ σ', f_M_take_44 F f m (nI t) (nI o) (nI k) (mh m h σ) = some ((), mh m h σ') ∧ gI σ' 13 = nI (itr (tk1 dr t b) k c s).1 ∧ RL σ' (itr (tk1 dr t b) k c s).2.1 ∧ okL (itr (tk1 dr t b) k c s).2.1 ∧ RO σ' (itr (tk1 dr t b) k c s).2.2.1 ∧ OU σ0 σ' (itr (tk1 dr t b) k c s).2.2.2 ∧ frW σ σ' := by
  have hM := w2_M hw
  intro c
  induction c with
  | zero =>
    intro k f σ s hB h3 hcb h1 hc hk hf ht hd h13 hs hr hok hl ho hol hou
    obtain ⟨f, rfl⟩ : ∃ x, f = x + 1 := ⟨f - 1, by omega⟩
    have hrk : rk (gA σ 6) o n := w1_rk (by rw [hcb]; exact hw.1) hn
    rw [itr_0]
    refine ⟨σ, ?_, h13, hr, hok, ho, hou, frW_refl σ⟩
    unfold f_M_take_44 f_M_take_138
    rw [e_o hm, bs, q_symbolMany (Mmb hm hB) (by omega) hrk (by rw [hcb]; exact hw.1.2.1.1) (by rw [hcb]; exact w2_z hw), xb_mk, hcb, if_pos (nI_le (by omega) (by omega))]
  | succ c ih =>
    intro k f σ s hB h3 hcb h1 hc hk hf ht hd h13 hs hr hok hl ho hol hou
    obtain ⟨f, rfl⟩ : ∃ x, f = x + 1 := ⟨f - 1, by omega⟩
    have hrk : rk (gA σ 6) o n := w1_rk (by rw [hcb]; exact hw.1) hn
    have hkM : k < oM b := by omega
    have hyk := hy k h1 hkM
    have hwc : w2 (cb (gA σ 6) o n) n := by rw [hcb]; exact hw
    have hbn := q_bind (F := F) (h := mh m h σ) (m := m) (k := k) (Mmb hm hB) (by omega) hrk (by rw [hcb]; exact hw.1.2.1.1) (by rw [hcb]; exact w2_y hw hkM)
    have step : ∀ σ1 s1, frW σ σ1 → (∀ k, isB (gA σ1 3 k)) → gI σ1 13 = nI s1.1 → s1.1 ≤ 2 → RL σ1 s1.2.1 → okL s1.2.1 → s1.2.1.length ≤ s.2.1.length + 1 → RO σ1 s1.2.2.1 → s1.2.2.1.length ≤ s.2.2.1.length + 1 → OU σ0 σ1 s1.2.2.2 → tk1 dr t b k s = s1 → ∃ σ', f_M_take_44 F f m (nI t) (nI o) (nI (k + 1)) (mh m h σ1) = some ((), mh m h σ') ∧ gI σ' 13 = nI (itr (tk1 dr t b) k (c + 1) s).1 ∧ RL σ' (itr (tk1 dr t b) k (c + 1) s).2.1 ∧ okL (itr (tk1 dr t b) k (c + 1) s).2.1 ∧ RO σ' (itr (tk1 dr t b) k (c + 1) s).2.2.1 ∧ OU σ0 σ' (itr (tk1 dr t b) k (c + 1) s).2.2.2 ∧ frW σ σ' := by
      intro σ1 s1 a1 a2 a3 a4 a5 a6 a7 a8 a9 a10 a11
      have g6 : gA σ1 6 = gA σ 6 := a1.2.2.1 6 (by decide) (by decide) (by decide) (by decide)
      have ht1 : RTa σ1 t o := by
        obtain ⟨b1, q, b2, b3, b4⟩ := ht
        exact ⟨b1, q, b2, by rw [a1.2.2.1 17 (by decide) (by decide) (by decide) (by decide)]; exact b3, by rw [a1.2.2.1 9 (by decide) (by decide) (by decide) (by decide)]; exact b4⟩
      have hd1 : RDr σ1 dr := by
        intro i hi
        rw [a1.2.2.1 65 (by decide) (by decide) (by decide) (by decide)]; exact hd i hi
      obtain ⟨σ', j1, j2, j3, j4, j5, j6, j7⟩ := ih (k + 1) f σ1 s1 (by rw [g6]; exact hB) a2 (by rw [g6]; exact hcb) (by omega) (by omega) (by omega) (by omega) ht1 hd1 a3 a4 a5 a6 (by omega) a8 (by omega) a10
      rw [itr_s, a11]
      exact ⟨σ', j1, j2, j3, j4, j5, j6, frW_trans a1 j7⟩
    rw [hcb] at hbn
    have hB15 : yB b k < 16 := by
      have := yB_lt (cb_lt (gA σ 6) o n) k
      rw [hcb] at this
      exact this
    unfold f_M_take_44 f_M_take_132
    rw [e_o hm, bs, q_symbolMany (Mmb hm hB) (by omega) hrk (by rw [hcb]; exact hw.1.2.1.1) (by rw [hcb]; exact w2_z hw), xb_mk, hcb, if_neg (nI_ge (by omega) (by omega)), e_o hm, bs, hbn, xb_mk, nI_add]
    by_cases c1 : yB b k = 0
    · rw [if_pos (by rw [c1]; rfl)]
      exact step σ s (frW_refl σ) h3 h13 hs hr hok (by omega) ho (by omega) hou (by unfold tk1; rw [if_pos c1])
    · rw [if_neg (show ¬ nI (yB b k) = 0 from fun q => c1 ((nI_eq (b := 0) (by omega) (by decide)).mp q)), Mg13 hm, bs, h13]
      obtain ⟨y1, y2, y3⟩ := yOK_n hyk c1
      by_cases c2 : s.1 = 1
      · rw [if_pos (by rw [c2]), e_o hm, bs]
        obtain ⟨σ1, e1, e2, e3⟩ := q_enter (F := F) (o := o) (n := n) (k := k) hm (by omega) hB hwc hn (by rw [hcb]; exact hkM) (by rw [hcb]; exact y2) hr (by omega)
        rw [hcb] at e1 e2
        rw [e1, xb_mk]
        have f1 := frM_J e3
        have hd1 : tk1 dr t b k s = (1, entL (yT b k) s.2.1, s.2.2.1, s.2.2.2) := by unfold tk1; rw [if_neg c1, if_pos c2]
        have hel := entL_len (w := yT b k) (xs := s.2.1)
        have hok1 := okL_ent (w := yT b k) hok
        generalize entL (yT b k) s.2.1 = ys at *
        refine step σ1 (1, ys, s.2.2.1, s.2.2.2) (frW_M f1) (by rw [f1.2.2.1 3 (by decide) (by decide) (by decide)]; exact h3) ?_ (show 1 ≤ 2 by decide) e2 hok1 hel ⟨(e3.1 48 (by decide)).trans ho.1, ho.2.1, fun i d hd => ?_⟩ (Nat.le_succ _) (OU_M hou f1) hd1
        · rw [f1.1 13 (by decide) (by decide), h13, c2]
        · rw [e3.2.2.1 49 (by decide) (by decide) (by decide) (by decide) (by decide) (by decide)]; exact ho.2.2 i d hd
      · rw [if_neg (fun q => c2 ((nI_eq (by omega) (by decide)).mp q)), e_o hm, bs]
        obtain ⟨σ1, e1, e2, e3, e4, e5⟩ := q_come (F := F) (o := o) (n := n) (k := k) (t := t) (dr := dr) hm (by omega) hB hwc hn (by rw [hcb]; exact hkM) (by rw [hcb]; exact hyk) (by rw [hcb]; exact c1) ht hd hr hok (by omega) ho (by omega)
        rw [hcb] at e1 e2 e3 e4
        have hcl := comS_len (dr := dr) (t := t) (b := b) (k := k) (st := (s.2.1, s.2.2.1))
        have hcf := fun q => comS_f (dr := dr) (t := t) (b := b) (k := k) (st := (s.2.1, s.2.2.1)) q
        have b6 : gA σ1 6 = gA σ 6 := e5.2.2.1 6 (by decide) (by decide) (by decide)
        have h31 : ∀ k, isB (gA σ1 3 k) := by rw [e5.2.2.1 3 (by decide) (by decide) (by decide)]; exact h3
        have i13 : gI σ1 13 = nI s.1 := (e5.1 13 (by decide) (by decide)).trans h13
        rw [e1, xb_mk]
        have hd0 : tk1 dr t b k s = if (comS dr t b k (s.2.1, s.2.2.1)).1 = true then (s.1, (comS dr t b k (s.2.1, s.2.2.1)).2.1, (comS dr t b k (s.2.1, s.2.2.1)).2.2, s.2.2.2) else (1, (comS dr t b k (s.2.1, s.2.2.1)).2.1, (comS dr t b k (s.2.1, s.2.2.1)).2.2, some (yT b k)) := by unfold tk1; rw [if_neg c1, if_neg c2]
        generalize comS dr t b k (s.2.1, s.2.2.1) = R at *
        obtain ⟨R1, R2, R3⟩ := R
        dsimp only at *
        cases R1 with
        | true =>
          rw [if_pos rfl] at hd0
          rw [if_neg (show ¬ bI true = 0 by decide)]
          exact step σ1 (s.1, R2, R3, s.2.2.2) (frW_M e5) h31 i13 hs e2 e3 hcl.1 e4 hcl.2 (OU_M hou e5) hd0
        | false =>
          rw [if_neg (by decide)] at hd0
          have hR2 := hcf rfl
          rw [if_pos (show bI false = 0 from rfl), Mp13 hm, bs, e_o hm, bs]
          obtain ⟨σ2, hσ2⟩ : ∃ x, x = sI σ1 13 (nI 1) := ⟨_, rfl⟩
          rw [← hσ2]
          have gAo : ∀ q, gA σ2 q = gA σ1 q := fun q => by rw [hσ2, gA_sI]
          have gBo : ∀ q, gB σ2 q = gB σ1 q := fun q => by rw [hσ2]; rfl
          have gIo : ∀ q, q ≠ 13 → gI σ2 q = gI σ1 q := fun q hq => by rw [hσ2, gI_sI, if_neg hq]
          have c6 : gA σ2 6 = gA σ 6 := (gAo 6).trans b6
          have hRL2 : RL σ2 R2 := ⟨RNm_eq e2.1 (gIo 20 (by decide)) (gAo 21) (gAo 22), fun i x hx => rrec_eq (e2.2 i x hx) (fun q _ => by rw [gAo]) (by rw [gBo])⟩
          obtain ⟨σ3, q, d1, d2, d3, d4, d5, d6, d7, d8, d9⟩ := q_double (F := F) (σ := σ2) (o := o) (n := n) (k := k) (xs := s.2.1) hm (by omega) (by rw [c6]; exact hB) (by rw [c6]; exact hwc) hn (by rw [c6, hcb]; exact hkM) (by rw [c6, hcb]; exact y2) (by rw [c6, hcb, ← hR2]; exact hRL2) (by rw [gAo]; exact h31) (by rw [c6, hcb, ← hR2]; have := hcl.1; omega)
          rw [c6, hcb] at d3 d4 d5
          rw [d1, xb_mk, Mr21 hm, bs, Mr22 hm, bs, Ma22 hm d2, bs, d3, e_o hm, bs, pk_mul, d4, xb_mk]
          refine step σ3 (1, R2, R3, some (yT b k)) ?_ d5.2.2.1 ?_ (show 1 ≤ 2 by decide) ?_ e3 hcl.1 ?_ hcl.2 ⟨fun q => (nomatch q), fun w hw => ?_⟩ hd0
          · refine frW_trans (frW_M e5) ⟨fun q a b _ _ => (d6 q a).trans (gIo q b), fun q => by rw [d7, hσ2]; rfl, fun q _ a _ _ => (d8 q a).trans (gAo q), fun q _ => (d9 q).trans (gBo q)⟩
          · rw [d6 13 (by decide), hσ2, gI_sI, if_pos rfl]
          · exact ⟨RNm_eq hRL2.1 (d6 20 (by decide)) (d8 21 (by decide)) (d8 22 (by decide)), fun i x hx => rrec_eq (hRL2.2 i x hx) (fun q hq => by rw [d8 q (by omega)]) (by rw [d9])⟩
          · refine ⟨(d6 48 (by decide)).trans ((gIo 48 (by decide)).trans e4.1), e4.2.1, fun i d hd => ?_⟩
            rw [d8 49 (by decide), gAo]; exact e4.2.2 i d hd
          · have hw2 : yT b k = w := Option.some.inj hw
            rw [← hw2]; exact d5
end MTS
