/-! reach of the reference -/
section MRD
variable {F m T N : Nat} {h : px_H} {dr : Nat → Bool} {tb : Nat → Nat → Nat} {tO tn : Nat → Nat} {xs : px_NL} {k60 : Nat → px_H → Option (Unit × px_H)} {st cn : Option Nat}
theorem q_rc_74 (hm : m ≤ h.length) (hF : 65536 < F) (hW : WP T tb dr xs) : ∀ (c t g : Nat) (σ : px_S) (s : px_RR), t + c = T → c < g → RWd σ T tO tn tb dr xs → gI σ 14 = nI T → RR N σ s → ∃ σ', f_M_reach_74 F k60 g m (nI t) (mh m h σ) = k60 m (mh m h σ') ∧ RR N σ' (itr (rsT tb dr xs) t c s) ∧ FR [98] [] [66, 67] [] σ σ' := by
  have hT := hW.1
  intro c
  induction c with
  | zero =>
    intro t g σ s ht hg hR h14 hS
    obtain ⟨g, rfl⟩ : ∃ x, g = x + 1 := ⟨g - 1, by omega⟩
    unfold f_M_reach_74 f_M_reach_93
    rw [Mg14 hm, bs, h14, if_pos (nI_le (by omega) (by omega))]
    exact ⟨σ, rfl, hS, FR_refl σ⟩
  | succ c ih =>
    intro t g σ s ht hg hR h14 hS
    obtain ⟨g, rfl⟩ : ∃ x, g = x + 1 := ⟨g - 1, by omega⟩
    obtain ⟨σ1, a1, a2, a3⟩ := q_reachSites (F := F) (t := t) hm hF hW (by omega) hR hS
    unfold f_M_reach_74 f_M_reach_93
    rw [Mg14 hm, bs, h14, if_neg (nI_ge (by omega) (by omega)), e_o hm, bs, a1, xb_mk, nI_add, itr_s]
    obtain ⟨σ2, b1, b2, b3⟩ := ih (t + 1) g σ1 _ (by omega) (by omega) (RWd_FR hR a3 (by decide) (by decide) (by decide)) ((a3.1 14 (by decide)).trans h14) a2
    exact ⟨σ2, b1, b2, FR_trans a3 b3⟩
/-- what is reached, told by the reference's rows -/
def RRf (N T : Nat) (tb : Nat → Nat → Nat) (dr : Nat → Bool) (xs : px_NL) (st cn : Option Nat) (σ : px_S) : Prop := ∃ R n : Nat → Bool, (∀ i, i < 1536 → gA σ 66 i = bI (R i)) ∧ (∀ i, i < N → gA σ 67 i = bI (n i)) ∧ (∀ x, R x = true ↔ Rch T tb dr xs st x) ∧ (∀ i, n i = true ↔ RcN T tb dr xs st cn i) ∧ ∃ ch, gI σ 98 = bI ch
theorem q_rc_60 (hm : m ≤ h.length) (hF : 65536 < F) (hW : WP T tb dr xs) : ∀ (d g : Nat) (σ : px_S) (s : px_RR), 1536 - cnt s.1 0 1536 ≤ d → d + 1 < g → RWd σ T tO tn tb dr xs → gI σ 14 = nI T → RR N σ s → s.2.2 = true → SD T tb dr xs st cn s → (∀ y, st = some y → s.1 y = true) → (∀ y, cn = some y → s.2.1 y = true) → ∃ σ', f_M_reach_60 F g m (mh m h σ) = some ((), mh m h σ') ∧ RRf N T tb dr xs st cn σ' ∧ gI σ' 68 = nI 1 ∧ FR [68, 98] [] [66, 67] [] σ σ' := by
  have hT := hW.1
  intro d
  induction d with
  | zero =>
    intro g σ s hd hg hR h14 hS hch hsd hst hcn
    obtain ⟨g, rfl⟩ : ∃ x, g = x + 2 := ⟨g - 2, by omega⟩
    have hSS : ∀ t, t < T → 1 ≤ oS (tb t) ∧ oS (tb t) ≤ 24 := fun t ht => (OB_w (hR.1 t ht)).1.2.1
    unfold f_M_reach_60
    rw [Mg98 hm, bs, hS.2.2, hch, if_neg (show ¬ bI true = 0 by decide), show nI 0 = bI false from rfl, Mz98 hm, bs]
    have f1 := FR_I σ 98 (bI false)
    have hR1 := RWd_FR hR f1 (by decide) (by decide) (by decide)
    have hS1 : RR N (sI σ 98 (bI false)) (s.1, s.2.1, false) := ⟨hS.1, hS.2.1, by rw [gI_sI, if_pos rfl]⟩
    obtain ⟨σ1, a1, a2, a3⟩ := q_rc_74 (F := F) (k60 := f_M_reach_60 F (g + 1)) hm hF hW T 0 F _ _ (by omega) (by omega) hR1 ((f1.1 14 (by decide)).trans h14) hS1
    rw [show bI false = nI 0 from rfl] at *
    rw [a1]
    obtain ⟨g1, g2, g3, g4⟩ := GD_R (xs := xs) hT (fun t ht => (hSS t ht).2) hW.2.2.1 (s.1, s.2.1, false)
    have hsd1 := SD_R (st := st) (cn := cn) (fun t ht => (hSS t ht).1) (show SD T tb dr xs st cn (s.1, s.2.1, false) from hsd)
    generalize itr (rsT tb dr xs) 0 T (s.1, s.2.1, false) = r at *
    have fr : FR [68, 98] [] [66, 67] [] σ σ1 := FR_trans (FR_mono f1 (by decide) (by decide) (by decide) (by decide)) (FR_mono a3 (by decide) (by decide) (by decide) (by decide))
    cases er : r.2.2 with
    | true =>
      obtain ⟨y, y1, y2, y3⟩ := g4 rfl er
      have c1 := cnt_lt g2 y2 y3 1536 0 (Nat.zero_le _) (by omega)
      have c2 := cnt_le (p := r.1) (c := 1536) (i := 0)
      have c1 : cnt s.1 0 1536 + 1 ≤ cnt r.1 0 1536 := c1
      omega
    | false =>
      obtain ⟨_, q2, q3⟩ := g3 er
      have q2 : r.1 = s.1 := q2
      have q3 : ∀ t, 0 ≤ t → t < 0 + T → QT T tb dr xs t s.1 r.2.1 := q3
      obtain ⟨z1, z2⟩ := Rch_of (st := st) (cn := cn) (fun t ht => (hSS t ht).1) hst (fun y hy => g1 y (hcn y hy)) q3
      unfold f_M_reach_60 f_M_reach_96
      rw [Mg98 hm, bs, a2.2.2, er, if_pos (show bI false = 0 from rfl), show nI 1 = bI true from rfl, Mz68 hm, bs]
      refine ⟨_, rfl, ⟨r.1, r.2.1, fun i hi => a2.1 i hi, fun i hi => a2.2.1 i hi, fun x => ⟨hsd1.1 x, fun hx => by rw [q2]; exact z1 x hx⟩, fun i => ⟨hsd1.2 i, z2 i⟩, ⟨r.2.2, a2.2.2⟩⟩, by rw [gI_sI, if_pos rfl], FR_trans fr (FR_mono (FR_I σ1 68 _) (by decide) (by decide) (by decide) (by decide))⟩
  | succ d ih =>
    intro g σ s hd hg hR h14 hS hch hsd hst hcn
    obtain ⟨g, rfl⟩ : ∃ x, g = x + 2 := ⟨g - 2, by omega⟩
    have hSS : ∀ t, t < T → 1 ≤ oS (tb t) ∧ oS (tb t) ≤ 24 := fun t ht => (OB_w (hR.1 t ht)).1.2.1
    unfold f_M_reach_60
    rw [Mg98 hm, bs, hS.2.2, hch, if_neg (show ¬ bI true = 0 by decide), show nI 0 = bI false from rfl, Mz98 hm, bs]
    have f1 := FR_I σ 98 (bI false)
    have hR1 := RWd_FR hR f1 (by decide) (by decide) (by decide)
    have hS1 : RR N (sI σ 98 (bI false)) (s.1, s.2.1, false) := ⟨hS.1, hS.2.1, by rw [gI_sI, if_pos rfl]⟩
    obtain ⟨σ1, a1, a2, a3⟩ := q_rc_74 (F := F) (k60 := f_M_reach_60 F (g + 1)) hm hF hW T 0 F _ _ (by omega) (by omega) hR1 ((f1.1 14 (by decide)).trans h14) hS1
    rw [show bI false = nI 0 from rfl] at *
    rw [a1]
    obtain ⟨g1, g2, g3, g4⟩ := GD_R (xs := xs) hT (fun t ht => (hSS t ht).2) hW.2.2.1 (s.1, s.2.1, false)
    have hsd1 := SD_R (st := st) (cn := cn) (fun t ht => (hSS t ht).1) (show SD T tb dr xs st cn (s.1, s.2.1, false) from hsd)
    generalize itr (rsT tb dr xs) 0 T (s.1, s.2.1, false) = r at *
    have fr : FR [68, 98] [] [66, 67] [] σ σ1 := FR_trans (FR_mono f1 (by decide) (by decide) (by decide) (by decide)) (FR_mono a3 (by decide) (by decide) (by decide) (by decide))
    cases er : r.2.2 with
    | true =>
      obtain ⟨y, y1, y2, y3⟩ := g4 rfl er
      have c1 := cnt_lt g2 y2 y3 1536 0 (Nat.zero_le _) (by omega)
      have c1 : cnt s.1 0 1536 + 1 ≤ cnt r.1 0 1536 := c1
      obtain ⟨σ2, b1, b2, b3, b4⟩ := ih (g + 1) σ1 r (by omega) (by omega) (RWd_FR hR fr (by decide) (by decide) (by decide)) ((fr.1 14 (by decide)).trans h14) a2 er hsd1 (fun y hy => g2 y (hst y hy)) (fun y hy => g1 y (hcn y hy))
      exact ⟨σ2, b1, b2, b3, FR_trans fr b4⟩
    | false =>
      obtain ⟨_, q2, q3⟩ := g3 er
      have q2 : r.1 = s.1 := q2
      have q3 : ∀ t, 0 ≤ t → t < 0 + T → QT T tb dr xs t s.1 r.2.1 := q3
      obtain ⟨z1, z2⟩ := Rch_of (st := st) (cn := cn) (fun t ht => (hSS t ht).1) hst (fun y hy => g1 y (hcn y hy)) q3
      unfold f_M_reach_60 f_M_reach_96
      rw [Mg98 hm, bs, a2.2.2, er, if_pos (show bI false = 0 from rfl), show nI 1 = bI true from rfl, Mz68 hm, bs]
      refine ⟨_, rfl, ⟨r.1, r.2.1, fun i hi => a2.1 i hi, fun i hi => a2.2.1 i hi, fun x => ⟨hsd1.1 x, fun hx => by rw [q2]; exact z1 x hx⟩, fun i => ⟨hsd1.2 i, z2 i⟩, ⟨r.2.2, a2.2.2⟩⟩, by rw [gI_sI, if_pos rfl], FR_trans fr (FR_mono (FR_I σ1 68 _) (by decide) (by decide) (by decide) (by decide))⟩
theorem q_rc_2 (hm : m ≤ h.length) : ∀ (c k g : Nat) (σ : px_S), k + c = 1536 → c < g → (∀ q, q < k → gA σ 66 q = bI false) → ∃ σ', f_M_reach_2 F g m (nI k) (mh m h σ) = f_M_reach_22 F m (mh m h σ') ∧ (∀ q, q < 1536 → gA σ' 66 q = bI false) ∧ FR [] [] [66] [] σ σ' := by
  intro c
  induction c with
  | zero =>
    intro k g σ hk hg hq
    obtain ⟨g, rfl⟩ : ∃ x, g = x + 1 := ⟨g - 1, by omega⟩
    unfold f_M_reach_2
    rw [if_pos (nI_le (by omega) (by omega))]
    exact ⟨σ, rfl, fun q h1 => hq q (by omega), FR_refl σ⟩
  | succ c ih =>
    intro k g σ hk hg hq
    obtain ⟨g, rfl⟩ : ∃ x, g = x + 1 := ⟨g - 1, by omega⟩
    unfold f_M_reach_2
    rw [if_neg (nI_ge (by omega) (by omega)), Mr66 hm, bs, show nI 0 &&& 1 = bI false from rfl, Ms66 hm (by omega), bs, nI_add]
    obtain ⟨σ2, j1, j2, j3⟩ := ih (k + 1) g (sA σ 66 (upd (gA σ 66) k (bI false))) (by omega) (by omega) (fun q hq2 => by
      show upd (gA σ 66) k (bI false) q = _
      by_cases c1 : q = k
      · rw [c1, upd_eq]
      · rw [upd_ne c1]; exact hq q (by omega))
    exact ⟨σ2, j1, j2, FR_trans (FR_A σ 66 _) j3⟩
theorem q_rc_24 (hm : m ≤ h.length) {N : Nat} (hN : N ≤ 4096) : ∀ (c k g : Nat) (σ : px_S), k + c = N → c < g → gI σ 20 = nI N → (∀ q, q < k → gA σ 67 q = bI false) → ∃ σ', f_M_reach_24 F g m (nI k) (mh m h σ) = f_M_reach_45 F m (mh m h σ') ∧ (∀ q, q < N → gA σ' 67 q = bI false) ∧ FR [] [] [67] [] σ σ' := by
  intro c
  induction c with
  | zero =>
    intro k g σ hk hg h20 hq
    obtain ⟨g, rfl⟩ : ∃ x, g = x + 1 := ⟨g - 1, by omega⟩
    unfold f_M_reach_24
    rw [Mg20 hm, bs, h20, if_pos (nI_le (by omega) (by omega))]
    exact ⟨σ, rfl, fun q h1 => hq q (by omega), FR_refl σ⟩
  | succ c ih =>
    intro k g σ hk hg h20 hq
    obtain ⟨g, rfl⟩ : ∃ x, g = x + 1 := ⟨g - 1, by omega⟩
    unfold f_M_reach_24
    rw [Mg20 hm, bs, h20, if_neg (nI_ge (by omega) (by omega)), Mr67 hm, bs, show nI 0 &&& 1 = bI false from rfl, Ms67 hm (by omega), bs, nI_add]
    obtain ⟨σ2, j1, j2, j3⟩ := ih (k + 1) g (sA σ 67 (upd (gA σ 67) k (bI false))) (by omega) (by omega) h20 (fun q hq2 => by
      show upd (gA σ 67) k (bI false) q = _
      by_cases c1 : q = k
      · rw [c1, upd_eq]
      · rw [upd_ne c1]; exact hq q (by omega))
    exact ⟨σ2, j1, j2, FR_trans (FR_A σ 67 _) j3⟩
/-- where start is defined -/
def stR (tb : Nat → Nat → Nat) (dr : Nat → Bool) (xs : px_NL) : Option Nat := match dfI wST xs with
  | none => none
  | some i => secN tb dr (xs.getD i ([], nr0)).2
def stC (xs : px_NL) : Option Nat := match dfI wST xs with
  | none => none
  | some i => comN xs i
theorem q_reach {σ : px_S} (hm : m ≤ h.length) (hF : 65536 < F) (hW : WP T tb dr xs) (hR : RWd σ T tO tn tb dr xs) (h14 : gI σ 14 = nI T) (hc : RC σ) (hs : (dfI wST xs).isSome = true) (h98 : ∃ ch, gI σ 98 = bI ch) : ∃ σ', f_M_reach F m (mh m h σ) = some ((), mh m h σ') ∧ RRf xs.length T tb dr xs (stR tb dr xs) (stC xs) σ' ∧ gI σ' 68 = nI 1 ∧ FR [68, 98] [] [66, 67] [] σ σ' := by
  have hxl : xs.length ≤ 4096 := by have := hR.2.2.1.2.1; rw [List.length_map] at this; exact this
  have h20 := hR.2.2.1.1
  rw [List.length_map] at h20
  obtain ⟨σ1, a1, a2, a3⟩ := q_rc_2 (F := F) (h := h) hm 1536 0 F σ (by omega) (by omega) (fun q hq => absurd hq (Nat.not_lt_zero q))
  obtain ⟨σ2, b1, b2, b3⟩ := q_rc_24 (F := F) (h := h) (N := xs.length) hm hxl xs.length 0 F σ1 (by omega) (by omega) ((a3.1 20 (by decide)).trans h20) (fun q hq => absurd hq (Nat.not_lt_zero q))
  have f2 : FR [68, 98] [] [66, 67] [] σ σ2 := FR_trans (FR_mono a3 (by decide) (by decide) (by decide) (by decide)) (FR_mono b3 (by decide) (by decide) (by decide) (by decide))
  have hR2 := RWd_FR hR f2 (by decide) (by decide) (by decide)
  have hc2 := RC_FR hc f2 (by decide) (by decide)
  obtain ⟨i, hi⟩ := Option.isSome_iff_exists.mp hs
  have hi2 : i < xs.length := by
    unfold dfI at hi
    split at hi
    · cases hi
    · rename_i ei
      split at hi
      · cases hi
      · have := idx_lt ei
        rw [List.length_map] at this
        have := Option.some.inj hi
        omega
  obtain ⟨x, hx⟩ : ∃ x, xs[i]? = some x := ⟨xs[i], List.getElem?_eq_getElem hi2⟩
  have est : stR tb dr xs = secN tb dr x.2 := by
    unfold stR
    rw [hi]
    show secN tb dr (xs.getD i ([], nr0)).2 = _
    rw [List.getD_eq_getElem?_getD, hx]
    rfl
  have ecn : stC xs = comN xs i := by unfold stC; rw [hi]
  obtain ⟨ch, hch⟩ := h98
  obtain ⟨σ5, d1, d2, d3⟩ := q_reachName (F := F) (σ := σ2) (N := xs.length) (s := (fun _ => false, fun _ => false, ch)) hm (by omega) hW.1 hR2.1 hR2.2.1 hR2.2.2 hW.2.1 hx (hW.2.2.1 i x hx) ⟨fun i hi => by rw [b3.2.2.1 66 (by decide)]; exact a2 i hi, fun i hi => b2 i hi, by rw [b3.1 98 (by decide), a3.1 98 (by decide)]; exact hch⟩
  have hsd : SD T tb dr xs (stR tb dr xs) (stC xs) (rs1 (secN tb dr x.2) (rn1 (comN xs i) (fun _ => false, fun _ => false, ch))) := SD_1 ⟨fun x hx => (nomatch hx), fun n hn => (nomatch hn)⟩ (fun y hy P p1 p2 => p1 y (est.trans hy)) (fun k hk => Or.inl (ecn.trans hk))
  have hin : (∀ y, secN tb dr x.2 = some y → (rs1 (secN tb dr x.2) (rn1 (comN xs i) (fun _ => false, fun _ => false, ch))).1 y = true) ∧ ∀ y, comN xs i = some y → (rs1 (secN tb dr x.2) (rn1 (comN xs i) (fun _ => false, fun _ => false, ch))).2.1 y = true := by
    generalize secN tb dr x.2 = u
    generalize comN xs i = v
    constructor
    · intro y hy
      rw [hy]
      cases v <;> exact bup_e
    · intro y hy
      rw [hy]
      cases u <;> exact bup_e
  generalize rs1 (secN tb dr x.2) (rn1 (comN xs i) (fun _ => false, fun _ => false, ch)) = r at *
  have f6 : FR [68, 98] [] [66, 67] [] σ (sI σ5 98 (bI true)) := FR_trans f2 (FR_trans (FR_mono d3 (by decide) (by decide) (by decide) (by decide)) (FR_mono (FR_I σ5 98 _) (by decide) (by decide) (by decide) (by decide)))
  have d4 : RR xs.length (sI σ5 98 (bI true)) (r.1, r.2.1, true) := ⟨d2.1, d2.2.1, by rw [gI_sI, if_pos rfl]⟩
  have e45 : f_M_reach_45 F m (mh m h σ2) = f_M_reach_60 F F m (mh m h (sI σ5 98 (bI true))) := by
    unfold f_M_reach_45
    rw [e_o hm, bs, q_start hm (by omega) hR2.2.2 hW.2.1 hc2, xb_mk, hi, show tdA (some i) = nI i from rfl, e_o hm, bs, d1, xb_mk, show nI 1 = bI true from rfl, Mz98 hm, bs]
  generalize sI σ5 98 (bI true) = σ6 at *
  obtain ⟨σ7, g1, g2, g3, g4⟩ := q_rc_60 (F := F) (N := xs.length) (st := stR tb dr xs) (cn := stC xs) hm hF hW 1536 F σ6 (r.1, r.2.1, true) (by omega) (by omega) (RWd_FR hR f6 (by decide) (by decide) (by decide)) ((f6.1 14 (by decide)).trans h14) d4 rfl hsd (fun y hy => hin.1 y (est.symm.trans hy)) (fun y hy => hin.2 y (ecn.symm.trans hy))
  refine ⟨σ7, ?_, g2, g3, FR_trans f6 g4⟩
  unfold f_M_reach
  rw [a1]
  unfold f_M_reach_22
  rw [b1, e45]
  exact g1
end MRD
