/-! keepLink of the reference -/
def okS (v : Int32) : Prop := ∃ o : Option Nat, v = tdA o ∧ ∀ s, o = some s → s < 3
section MKL
variable {F m T : Nat} {h : px_H} {tb : Nat → Nat → Nat} {tO tn : Nat → Nat} {dr : Nat → Bool} {xs : px_NL} {od : List Nat} {on : Bool} {R rn : Nat → Bool}
theorem q_kL_10 {fe : Nat} (hm : m ≤ h.length) (hfe : fe ≤ 65536) : ∀ (c k g : Nat) (σ : px_S), k + c = fe → c < g → gI σ 4 = nI fe → (∀ k, isB (gA σ 42 k)) → ∃ σ', f_M_keepLink_10 F g m (nI k) (mh m h σ) = f_M_keepLink_36 F m (mh m h σ') ∧ (∀ k, isB (gA σ' 42 k)) ∧ FR [] [] [42] [] σ σ' := by
  intro c
  induction c with
  | zero =>
    intro k g σ hk hg h4 h42
    obtain ⟨g, rfl⟩ : ∃ x, g = x + 1 := ⟨g - 1, by omega⟩
    unfold f_M_keepLink_10
    rw [Mg4 hm, bs, h4, if_pos (nI_le (by omega) (by omega))]
    exact ⟨σ, rfl, h42, FR_refl σ⟩
  | succ c ih =>
    intro k g σ hk hg h4 h42
    obtain ⟨g, rfl⟩ : ∃ x, g = x + 1 := ⟨g - 1, by omega⟩
    unfold f_M_keepLink_10
    rw [Mg4 hm, bs, h4, if_neg (nI_ge (by omega) (by omega)), Mr42 hm, bs, Mr3 hm, bs, Ma3 hm (by omega), bs, Ms42 hm (by omega), bs, nI_add]
    have f1 := FR_A σ 42 (upd (gA σ 42) k (gA σ 3 k).toInt8.toInt32)
    obtain ⟨σ2, j1, j2, j3⟩ := ih (k + 1) g _ (by omega) (by omega) ((f1.1 4 (by decide)).trans h4) (fun q => by
      show isB (upd (gA σ 42) k _ q)
      by_cases c1 : q = k
      · rw [c1, upd_eq]; exact isB_8 _
      · rw [upd_ne c1]; exact h42 q)
    exact ⟨σ2, j1, j2, FR_trans f1 j3⟩
abbrev klA : List Nat := [38, 39]
theorem q_kL_38 (hm : m ≤ h.length) (hF : 65540 < F) (hWP : WP T tb dr xs) (hod : ∀ d, d ∈ od → d < xs.length) (hoS : ∀ d, d ∈ od → stN xs d = 1 ∨ stN xs d = 2 ∨ stN xs d = 3) : ∀ (c P g : Nat) (σ : px_S), P + c = od.length → c < g → RWd σ T tO tn tb dr xs → RO σ od → RRn σ xs on rn → RSt σ on R → (∀ (Q n : Nat), Q < P → od[Q]? = some n → okS (gA σ 39 n)) → ∃ σ', f_M_keepLink_38 F g m (nI P) (mh m h σ) = some ((), mh m h σ') ∧ (∀ (Q n : Nat), od[Q]? = some n → okS (gA σ' 39 n)) ∧ FR [] [] klA [41] σ σ' := by
  intro c
  induction c with
  | zero =>
    intro P g σ hP hg hR ho hc hs hQ
    obtain ⟨g, rfl⟩ : ∃ x, g = x + 1 := ⟨g - 1, by omega⟩
    have hol := ho.2.1
    unfold f_M_keepLink_38 f_M_keepLink_266
    rw [Mg48 hm, bs, ho.1, if_pos (nI_le (by omega) (by omega))]
    exact ⟨σ, rfl, fun Q n hn => hQ Q n (by have := (List.getElem?_eq_some_iff.mp hn).1; omega) hn, FR_refl σ⟩
  | succ c ih =>
    intro P g σ hP hg hR ho hc hs hQ
    obtain ⟨g, rfl⟩ : ∃ x, g = x + 1 := ⟨g - 1, by omega⟩
    have hol := ho.2.1
    have hxl : xs.length ≤ 4096 := by have := hR.2.2.1.2.1; rw [List.length_map] at this; exact this
    have hPl : P < od.length := by omega
    have hx := List.getElem?_eq_getElem hPl
    have hn := hod _ (List.getElem_mem hPl)
    have hns := hoS _ (List.getElem_mem hPl)
    generalize od[P] = n at *
    obtain ⟨x, hxn⟩ : ∃ x, xs[n]? = some x := ⟨xs[n], List.getElem?_eq_getElem hn⟩
    rw [stN_at hxn] at hns
    have rr := hR.2.2.2 n x hxn
    have hby := hWP.2.2.1 n x hxn
    have hgv : ∀ q, x.2.2.2.2.1 = some q → q.1 < 64 := fun q hq => by
      have := hby
      unfold byP at this
      rw [hq] at this
      have := this.1
      have := hWP.1
      omega
    -- whatever is written, the loop goes on
    have nx : ∀ σ1, FR [] [] klA [41] σ σ1 → okS (gA σ1 39 n) → (∀ j, j ≠ n → gA σ1 39 j = gA σ 39 j) → ∃ σ', f_M_keepLink_38 F g m (nI (P + 1)) (mh m h σ1) = some ((), mh m h σ') ∧ (∀ (Q n : Nat), od[Q]? = some n → okS (gA σ' 39 n)) ∧ FR [] [] klA [41] σ σ' := by
      intro σ1 f1 hk1 hk2
      obtain ⟨σ2, b1, b2, b3⟩ := ih (P + 1) g σ1 (by omega) (by omega) (RWd_FR hR f1 (by decide) (by decide) (by decide)) (RO_FR ho f1 (by decide) (by decide)) (RRn_FR hc f1 (by decide) (by decide)) (RSt_FR hs f1 (by decide) (by decide)) (fun Q n' hQ' hn' => by
        by_cases e : n' = n
        · rw [e]; exact hk1
        · rw [hk2 n' e]
          refine hQ Q n' ?_ hn'
          by_cases eq : Q = P
          · rw [eq, hx] at hn'
            exact absurd (Option.some.inj hn').symm e
          · omega)
      exact ⟨σ2, b1, b2, FR_trans f1 b3⟩
    have e120 : ∀ (σ1 : px_S) (v : Int32) (cm : Bool), FR [] [] klA [41] σ σ1 → gA σ1 39 = gA σ 39 → okS v → cm = decide (x.2.1 = 2) → ∃ σ', f_M_keepLink_120 F (f_M_keepLink_38 F g) m (nI P) (nI n) (bI cm) (m + 29) (nI n) v (mh m h σ1) = some ((), mh m h σ') ∧ (∀ (Q n : Nat), od[Q]? = some n → okS (gA σ' 39 n)) ∧ FR [] [] klA [41] σ σ' := by
      intro σ1 v cm f1 h39 hv hcm
      unfold f_M_keepLink_120 f_M_keepLink_260
      rw [Ms39 hm (by omega), bs, nI_add]
      have f2 : FR [] [] klA [41] σ1 (sA σ1 39 (upd (gA σ1 39) n v)) := FR_mono (FR_A σ1 39 _) (by decide) (by decide) (by decide) (by decide)
      have g39 : gA (sA σ1 39 (upd (gA σ1 39) n v)) 39 = upd (gA σ 39) n v := by rw [gA_sA, if_pos rfl, h39]
      generalize sA σ1 39 (upd (gA σ1 39) n v) = σ2 at *
      have f12 := FR_trans f1 f2
      have done1 : ∃ σ', f_M_keepLink_38 F g m (nI (P + 1)) (mh m h σ2) = some ((), mh m h σ') ∧ (∀ (Q n : Nat), od[Q]? = some n → okS (gA σ' 39 n)) ∧ FR [] [] klA [41] σ σ' := nx σ2 f12 (by rw [g39, upd_eq]; exact hv) (fun j hj => by rw [g39, upd_ne hj])
      cases ecm : cm with
      | true => rw [if_neg (show ¬ bI true = 0 by decide)]; exact done1
      | false =>
        rw [ecm] at hcm
        have c2 : x.2.1 ≠ 2 := fun q => by rw [decide_eq_true q] at hcm; cases hcm
        have hR2 := RWd_FR hR f12 (by decide) (by decide) (by decide)
        rw [if_pos (show bI false = 0 from rfl), e_o hm, bs, q_isGiven hm hR2.2.2 hWP.2.1 hxn hgv, xb_mk]
        cases eq : x.2.2.2.2.1 with
        | none =>
          have hb0 := hby
          unfold byP at hb0
          rw [eq] at hb0
          have hb0 : x.2.1 = 0 ∨ x.2.1 = 3 ∨ x.2.1 = 4 := hb0
          rw [decide_eq_true (show x.2.1 = 3 by omega), if_neg (by decide)]
          exact done1
        | some q =>
          have hb0 := hby
          unfold byP at hb0
          rw [eq] at hb0
          obtain ⟨b1, b2, b3, b4, b5, b6⟩ := hb0
          have rr2 := hR2.2.2.2 n x hxn
          have hy := rr2.2.2.2.1
          rw [eq] at hy
          have hy : gA σ2 24 n = nI q.1 ∧ gA σ2 25 n = nI q.2 := hy
          have hb := hR2.1 q.1 b1
          have hyP := w2_y (OB_w hb) b2.2
          have hwl := wNo_lt (k := q.2) (dr := dr) hb
          have hx4 : yP (tb q.1) q.2 + 4 < tn q.1 := by omega
          rw [show (some q).isNone = false from rfl, Bool.and_false, if_pos (show bI false = 0 from rfl), Mr24 hm, bs, Ma24 hm (by omega), bs, hy.1, Mr25 hm, bs, Ma25 hm (by omega), bs, hy.2, e_o hm, bs, O_wNo hm (by omega) hb hR2.2.1 b2.2, xb_mk, Mr38 hm, bs, Mr6 hm, bs, e_o hm, bs, O_obj hm hb, xb_mk, Mr25 hm, bs, Ma25 hm (by omega), bs, hy.2, e_o hm, bs, O_sym hm (by omega) hb, xb_mk, nI_add, Nat.add_assoc, O_byte hm hb hx4, bs, Ms38 hm (by omega), bs]
          have f3 : FR [] [] klA [41] σ2 (sA σ2 38 (upd (gA σ2 38) n (gA σ2 6 (tO q.1 + (yP (tb q.1) q.2 + 4)) &&& nI 255))) := FR_mono (FR_A σ2 38 _) (by decide) (by decide) (by decide) (by decide)
          have g393 : gA (sA σ2 38 (upd (gA σ2 38) n (gA σ2 6 (tO q.1 + (yP (tb q.1) q.2 + 4)) &&& nI 255))) 39 = upd (gA σ 39) n v := by rw [gA_sA, if_neg (by decide)]; exact g39
          generalize sA σ2 38 (upd (gA σ2 38) n (gA σ2 6 (tO q.1 + (yP (tb q.1) q.2 + 4)) &&& nI 255)) = σ3 at *
          have f13 := FR_trans f12 f3
          have hR3 := RWd_FR hR f13 (by decide) (by decide) (by decide)
          have hy3 : gA σ3 25 n = nI q.2 := by rw [f3.2.2.1 25 (by decide)]; exact hy.2
          have hb3 := hR3.1 q.1 b1
          rw [Mr41 hm, bs, e_o hm, bs, O_obj hm hb3, xb_mk, Mr25 hm, bs, Ma25 hm (by omega), bs, hy3, e_o hm, bs, O_ysize hm (by omega) hb3 b2.2, xb_mk, Ms41 hm (by omega), bs]
          have f4 : FR [] [] klA [41] σ3 (sB σ3 41 (vp_updL (gB σ3 41) n (lN (yZ (tb q.1) q.2)))) := FR_mono (FR_B σ3 41 _) (by decide) (by decide) (by decide) (by decide)
          have g394 : gA (sB σ3 41 (vp_updL (gB σ3 41) n (lN (yZ (tb q.1) q.2)))) 39 = upd (gA σ 39) n v := g393
          generalize sB σ3 41 (vp_updL (gB σ3 41) n (lN (yZ (tb q.1) q.2))) = σ4 at *
          have f14 := FR_trans f13 f4
          have hR4 := RWd_FR hR f14 (by decide) (by decide) (by decide)
          have hb4 := hR4.1 q.1 b1
          have hs4 := RSt_FR hs f14 (by decide) (by decide)
          rw [Mr39 hm, bs, e_o hm, bs, q_isSectionNow hm (by omega) hb4 (by omega), xb_mk]
          have e259 : ∀ w, okS w → ∃ σ', f_M_keepLink_259 F (f_M_keepLink_38 F g) m (nI P) (m + 29) (nI n) w (mh m h σ4) = some ((), mh m h σ') ∧ (∀ (Q n : Nat), od[Q]? = some n → okS (gA σ' 39 n)) ∧ FR [] [] klA [41] σ σ' := fun w hw => by
            unfold f_M_keepLink_259 f_M_keepLink_260
            rw [Ms39 hm (by omega), bs, nI_add]
            refine nx _ (FR_trans f14 (FR_mono (FR_A σ4 39 _) (by decide) (by decide) (by decide) (by decide))) (by rw [gA_sA, if_pos rfl, upd_eq]; exact hw) (fun j hj => by rw [gA_sA, if_pos rfl, upd_ne hj, g394, upd_ne hj])
          have hm1 : okS (Int32.ofInt (-1)) := ⟨none, rfl, fun s hs => nomatch hs⟩
          unfold f_M_keepLink_258
          cases en : isN tb q.1 (wNo dr q.1 (tb q.1) q.2) with
          | false => rw [if_pos (show bI false = 0 from rfl)]; exact e259 _ hm1
          | true =>
            have hwo : wNo dr q.1 (tb q.1) q.2 < oS (tb q.1) := by
              unfold isN at en
              rw [Bool.and_eq_true] at en
              exact (of_decide_eq_true en.1).2
            rw [if_neg (show ¬ bI true = 0 by decide), e_o hm, bs, q_stays hm (by omega) hb4 hR4.2.1 hs4 hwo, xb_mk]
            cases sta tb dr on R q.1 (wNo dr q.1 (tb q.1) q.2) with
            | false => rw [if_pos (show bI false = 0 from rfl)]; exact e259 _ hm1
            | true =>
              have hG : oG (tb q.1) (wNo dr q.1 (tb q.1) q.2) ≤ 5 := by unfold oG; repeat (first | omega | split)
              have hsg := sgO_2 (g := oG (tb q.1) (wNo dr q.1 (tb q.1) q.2))
              rw [if_neg (show ¬ bI true = 0 by decide), e_o hm, bs, O_obj hm hb4, xb_mk, e_o hm, bs, O_group hm (by omega) hb4 hwo, xb_mk, q_segmentOf (by omega), xb_mk]
              exact e259 _ ⟨some _, rfl, fun s hs => by have := Option.some.inj hs; omega⟩
    have e68 : ∀ cm : Bool, cm = decide (x.2.1 = 2) → ∃ σ', f_M_keepLink_68 F (f_M_keepLink_38 F g) m (nI P) (nI n) (bI cm) (mh m h σ) = some ((), mh m h σ') ∧ (∀ (Q n : Nat), od[Q]? = some n → okS (gA σ' 39 n)) ∧ FR [] [] klA [41] σ σ' := by
      intro cm hcm
      unfold f_M_keepLink_68
      rw [Mr38 hm, bs, Ms38 hm (by omega), bs]
      have f1 : FR [] [] klA [41] σ (sA σ 38 (upd (gA σ 38) n (nI 16))) := FR_mono (FR_A σ 38 _) (by decide) (by decide) (by decide) (by decide)
      have g39 : gA (sA σ 38 (upd (gA σ 38) n (nI 16))) 39 = gA σ 39 := by rw [gA_sA, if_neg (by decide)]
      generalize sA σ 38 (upd (gA σ 38) n (nI 16)) = σ1 at *
      have e97 : ∀ w, ∃ σ', f_M_keepLink_97 F (f_M_keepLink_38 F g) m (nI P) (nI n) (bI cm) (m + 31) (nI n) w (mh m h σ1) = some ((), mh m h σ') ∧ (∀ (Q n : Nat), od[Q]? = some n → okS (gA σ' 39 n)) ∧ FR [] [] klA [41] σ σ' := by
        intro w
        unfold f_M_keepLink_97 f_M_keepLink_119
        rw [Ms41 hm (by omega), bs]
        have f2 : FR [] [] klA [41] σ1 (sB σ1 41 (vp_updL (gB σ1 41) n w)) := FR_mono (FR_B σ1 41 _) (by decide) (by decide) (by decide) (by decide)
        have g392 : gA (sB σ1 41 (vp_updL (gB σ1 41) n w)) 39 = gA σ 39 := g39
        generalize sB σ1 41 (vp_updL (gB σ1 41) n w) = σ2 at *
        have f12 := FR_trans f1 f2
        have hm1 : okS (Int32.ofInt (-1)) := ⟨none, rfl, fun s hs => nomatch hs⟩
        rw [Mr39 hm, bs]
        cases ecm : cm with
        | false =>
          rw [if_pos (show bI false = 0 from rfl)]
          exact e120 σ2 _ false f12 g392 hm1 (ecm ▸ hcm)
        | true =>
          rw [if_neg (show ¬ bI true = 0 by decide), e_o hm, bs, q_isCommon (on := on) (rn := rn) hm (RL_FR hR.2.2 f12 (by decide) (by decide) (by decide)) hWP.2.1 (RO_FR ho f12 (by decide) (by decide)) hx hn (RRn_FR hc f12 (by decide) (by decide)), xb_mk]
          cases cB xs on rn n with
          | false => rw [if_pos (show bI false = 0 from rfl)]; exact e120 σ2 _ true f12 g392 hm1 (ecm ▸ hcm)
          | true => rw [if_neg (show ¬ bI true = 0 by decide)]; exact e120 σ2 _ true f12 g392 ⟨some 2, rfl, fun s hs => by have := Option.some.inj hs; omega⟩ (ecm ▸ hcm)
      rw [Mr41 hm, bs]
      cases ecm : cm with
      | false => rw [ecm] at e97; rw [if_pos (show bI false = 0 from rfl)]; exact e97 _
      | true => rw [ecm] at e97; rw [if_neg (show ¬ bI true = 0 by decide), Mr26 hm, bs, Ma26 hm (by omega), bs]; exact e97 _
    have h4 := (hWP.2.1 n x hxn).1
    unfold f_M_keepLink_38
    rw [Mg48 hm, bs, ho.1, if_neg (nI_ge (by omega) (by omega)), Mr49 hm, bs, Ma49 hm (by omega), bs, ho.2.2 P n hx, Mr23 hm, bs, Ma23 hm (by omega), bs, rr.1]
    by_cases c2 : x.2.1 = 2
    · rw [if_pos (by rw [c2])]
      exact e68 true (by rw [decide_eq_true c2])
    · rw [if_neg (fun q => c2 ((nI_eq (by omega) (by decide)).mp q))]
      exact e68 false (by rw [decide_eq_false c2])
theorem q_keepLink {σ : px_S} {fe : Nat} (hm : m ≤ h.length) (hF : 65540 < F) (hWP : WP T tb dr xs) (hod : ∀ d, d ∈ od → d < xs.length) (hoS : ∀ d, d ∈ od → stN xs d = 1 ∨ stN xs d = 2 ∨ stN xs d = 3) (hR : RWd σ T tO tn tb dr xs) (ho : RO σ od) (hc : RRn σ xs on rn) (hs : RSt σ on R) (hfe : fe ≤ 65536) (h4 : gI σ 4 = nI fe) (h42 : ∀ k, isB (gA σ 42 k)) : ∃ σ', f_M_keepLink F m (mh m h σ) = some ((), mh m h σ') ∧ gI σ' 43 = nI fe ∧ (∀ k, isB (gA σ' 42 k)) ∧ (∀ (Q n : Nat), od[Q]? = some n → okS (gA σ' 39 n)) ∧ FR [43] [] [38, 39, 42] [41] σ σ' := by
  have hol := ho.2.1
  have f1 := FR_I σ 43 (nI fe)
  have g43 : gI (sI σ 43 (nI fe)) 43 = nI fe := by rw [gI_sI, if_pos rfl]
  have p43 : xpI (mh m h σ) 12 43 m (nI fe) = some (mh m h (sI σ 43 (nI fe))) := Mp43 hm _
  generalize sI σ 43 (nI fe) = σ1 at *
  obtain ⟨σ2, a1, a2, a3⟩ := q_kL_10 (F := F) (h := h) hm hfe fe 0 F σ1 (by omega) (by omega) ((f1.1 4 (by decide)).trans h4) (by rw [f1.2.2.1 42 (by decide)]; exact h42)
  have f2 : FR [43] [] [38, 39, 42] [41] σ σ2 := FR_trans (FR_mono f1 (by decide) (by decide) (by decide) (by decide)) (FR_mono a3 (by decide) (by decide) (by decide) (by decide))
  obtain ⟨σ3, b1, b2, b3⟩ := q_kL_38 (F := F) (h := h) (on := on) (rn := rn) (R := R) hm hF hWP hod hoS od.length 0 F σ2 (by omega) (by omega) (RWd_FR hR f2 (by decide) (by decide) (by decide)) (RO_FR ho f2 (by decide) (by decide)) (RRn_FR hc f2 (by decide) (by decide)) (RSt_FR hs f2 (by decide) (by decide)) (fun Q n hQ => absurd hQ (Nat.not_lt_zero Q))
  refine ⟨σ3, ?_, ?_, ?_, b2, FR_trans f2 (FR_mono b3 (by decide) (by decide) (by decide) (by decide))⟩
  · unfold f_M_keepLink
    rw [Mg4 hm, bs, h4, p43, bs, a1]
    exact b1
  · rw [b3.1 43 (by decide), a3.1 43 (by decide)]; exact g43
  · rw [b3.2.2.1 42 (by decide)]; exact a2
end MKL
