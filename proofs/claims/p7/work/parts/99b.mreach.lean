/-! reachSites of the reference -/
def WP (T : Nat) (tb : Nat → Nat → Nat) (dr : Nat → Bool) (xs : px_NL) : Prop := T ≤ 64 ∧ okL xs ∧ AL (byP T tb dr) xs ∧ (∀ t k, t < T → 1 ≤ k → k < oM (tb t) → yB (tb t) k ≠ 0 → yT (tb t) k ∈ xs.map Prod.fst) ∧ (xs.map Prod.fst).Nodup
def RWd (σ : px_S) (T : Nat) (tO tn : Nat → Nat) (tb : Nat → Nat → Nat) (dr : Nat → Bool) (xs : px_NL) : Prop := (∀ t, t < T → OB σ t (tO t) (tn t) (tb t)) ∧ RDr σ dr ∧ RL σ xs
theorem RWd_FR {σ σ' : px_S} {I J A B : List Nat} {T : Nat} {tO tn : Nat → Nat} {tb : Nat → Nat → Nat} {dr : Nat → Bool} {xs : px_NL} (h : RWd σ T tO tn tb dr xs) (f : FR I J A B σ σ') (h20 : 20 ∉ I) (hA : ∀ k, k ∈ [6, 9, 17, 21, 22, 23, 24, 25, 26, 27, 28, 65, 73] → k ∉ A) (hB : 30 ∉ B) : RWd σ' T tO tn tb dr xs :=
  ⟨fun t ht => OB_FR (h.1 t ht) f ⟨hA 6 (by decide), hA 9 (by decide), hA 17 (by decide)⟩, fun i hi => by rw [f.2.2.1 65 (hA 65 (by decide))]; exact h.2.1 i hi, RL_FR h.2.2 f h20 (fun k hk => hA k (by revert k; decide)) hB⟩
theorem plc_ix {w : List Nat} {xs : px_NL} (h : w ∈ xs.map Prod.fst) : ∃ x, xs[plc w (xs.map Prod.fst)]? = some x ∧ x.1 = w ∧ idx w 0 (xs.map Prod.fst) = some (plc w (xs.map Prod.fst)) := by
  obtain ⟨i, hi⟩ := Option.isSome_iff_exists.mp (idx_iff.mpr h)
  have h1 := idx_some hi
  have h2 := idx_lt hi
  rw [Nat.sub_zero] at h1
  rw [List.length_map] at h2
  have e : plc w (xs.map Prod.fst) = i := by unfold plc; rw [hi]; rfl
  rw [e]
  have h3 : i < xs.length := by omega
  refine ⟨xs[i], List.getElem?_eq_getElem h3, ?_, hi⟩
  rw [List.getElem?_map, List.getElem?_eq_getElem h3] at h1
  exact Option.some.inj h1
def rsJ (tb : Nat → Nat → Nat) (dr : Nat → Bool) (xs : px_NL) (t i j : Nat) (s : px_RR) : px_RR := if sH (tb t) i j = 0 then s else rs1 (secY tb dr xs t (sY (tb t) i j)) (rn1 (comY tb xs t (sY (tb t) i j)) s)
def rsI (tb : Nat → Nat → Nat) (dr : Nat → Bool) (xs : px_NL) (t i : Nat) (s : px_RR) : px_RR := if isS (tb t) i = true ∧ s.1 (24 * t + oI (tb t) i) = true then itr (rsJ tb dr xs t i) 0 (sN (tb t) i) s else s
def rsT (tb : Nat → Nat → Nat) (dr : Nat → Bool) (xs : px_NL) (t : Nat) (s : px_RR) : px_RR := itr (rsI tb dr xs t) 1 (oS (tb t) - 1) s
section MRT
variable {F m T t o n i N : Nat} {h : px_H} {dr : Nat → Bool} {tb : Nat → Nat → Nat} {tO tn : Nat → Nat} {xs : px_NL} {k8 : Nat → Int32 → Int32 → Int32 → px_H → Option (Unit × px_H)}
theorem q_reachY {k : Nat} {σ : px_S} {s : px_RR} (hm : m ≤ h.length) (hF : 4096 < F) (hW : WP T tb dr xs) (hR : RWd σ T tO tn tb dr xs) (ht : t < T) (h1 : 1 ≤ k) (hk : k < oM (tb t)) (hs : RR N σ s) {K : Unit → px_H → Option (Unit × px_H)} : ∃ σ', ((xo (mh m h σ) 12 m).bind fun _ => xb (f_M_bind F m (nI (tO t)) (nI k) (mh m h σ)) fun t11 ph12 => if t11 = 0 then (xo ph12 12 m).bind fun _ => xb (f_M_whereNow F m (nI t) (nI k) ph12) fun t16 ph17 => (xo ph17 12 m).bind fun _ => xb (f_M_reachSection F m (nI t) t16 ph17) K else (xo ph12 12 m).bind fun _ => xb (f_M_nameOf F m (nI (tO t)) (nI k) ph12) fun t13 ph14 => (xo ph14 12 m).bind fun _ => xb (f_M_reachName F m t13 ph14) K) = K () (mh m h σ') ∧ RR N σ' (rs1 (secY tb dr xs t k) (rn1 (comY tb xs t k) s)) ∧ FR [98] [] [66, 67] [] σ σ' := by
  have hb := hR.1 t ht
  have hB16 := OB_yB (k := k) hb
  rw [e_o hm, bs, O_bind hm (by omega) hb hk, xb_mk]
  by_cases c1 : yB (tb t) k = 0
  · obtain ⟨σ', a1, a2, a3⟩ := q_reachSection (F := F) (w := wNo dr t (tb t) k) (s := s) hm (by omega) hb hR.2.1 (by have := wNo_lt (k := k) (dr := dr) hb; omega) hs
    refine ⟨σ', ?_, ?_, FR_mono a3 (by decide) (by decide) (by decide) (by decide)⟩
    · rw [if_pos (by rw [c1]; rfl), e_o hm, bs, O_wNo hm (by omega) hb hR.2.1 hk, xb_mk, e_o hm, bs, a1, xb_mk]
    · unfold secY comY
      rw [if_neg (by omega), if_pos c1, if_pos (Or.inr c1)]
      exact a2
  · obtain ⟨x, x1, x2, x3⟩ := plc_ix (hW.2.2.2.1 t k ht h1 hk c1)
    obtain ⟨σ', a1, a2, a3⟩ := q_reachName (F := F) (s := s) hm hF hW.1 hR.1 hR.2.1 hR.2.2 hW.2.1 x1 (hW.2.2.1 _ _ x1) hs
    refine ⟨σ', ?_, ?_, a3⟩
    · rw [if_neg (show ¬ nI (yB (tb t) k) = 0 from fun q => c1 ((nI_eq (b := 0) (by omega) (by decide)).mp q)), e_o hm, bs, O_name hm hF hb hR.2.2 h1 hk c1, xb_mk, x3, show tdA (some (plc (yT (tb t) k) (xs.map Prod.fst))) = nI (plc (yT (tb t) k) (xs.map Prod.fst)) from rfl, e_o hm, bs, a1, xb_mk]
    · unfold secY comY
      rw [if_neg (by omega), if_neg c1, if_neg (fun q => q.elim (fun q => by omega) c1), x1]
      exact a2
theorem q_rS_52 (hm : m ≤ h.length) (hF : 4096 < F) (hW : WP T tb dr xs) (ht : t < T) (h1 : 1 ≤ i) (hi : i < oS (tb t)) (hs : isS (tb t) i = true) : ∀ (c j g : Nat) (σ : px_S) (s : px_RR), j + c = sN (tb t) i → c < g → RWd σ T tO tn tb dr xs → RR N σ s → ∃ σ', f_M_reachSites_52 F k8 g m (nI t) (nI (tO t)) (nI i) (nI j) (mh m h σ) = k8 m (nI t) (nI (tO t)) (nI (i + 1)) (mh m h σ') ∧ RR N σ' (itr (rsJ tb dr xs t i) j c s) ∧ FR [98] [] [66, 67] [] σ σ' := by
  intro c
  induction c with
  | zero =>
    intro j g σ s hj hg hR hS
    obtain ⟨g, rfl⟩ : ∃ x, g = x + 1 := ⟨g - 1, by omega⟩
    have hb := hR.1 t ht
    have hz := (eSit_0 hb.2.2.2.1 h1 hi hs).2.2.2.1
    have hn := hb.2.2.1
    have hsz : sN (tb t) i < 2 ^ 30 := by unfold sN; omega
    unfold f_M_reachSites_52 f_M_reachSites_153
    rw [e_o hm, bs, O_sN hm (by omega) hb h1 hi hs, xb_mk, if_pos (nI_le (by omega) (by omega)), nI_add]
    exact ⟨σ, rfl, hS, FR_refl σ⟩
  | succ c ih =>
    intro j g σ s hj hg hR hS
    obtain ⟨g, rfl⟩ : ∃ x, g = x + 1 := ⟨g - 1, by omega⟩
    have hb := hR.1 t ht
    have he := eSit_0 hb.2.2.2.1 h1 hi hs
    have hz := he.2.2.2.1
    have hn := hb.2.2.1
    have hsz : sN (tb t) i < 2 ^ 30 := by unfold sN; omega
    have hp := OB_sP hb h1 hi hs (show j < sN (tb t) i by omega)
    have hok := sOK_0w (he.2.2.2.2.2 j (by omega))
    have hM := w2_M (OB_w hb)
    have hsH : sH (tb t) i j < 2 ^ 32 := by
      unfold sH
      exact le_lt (OB_lt hb) _ 4
    have step : ∀ σ1 s1, FR [98] [] [66, 67] [] σ σ1 → RR N σ1 s1 → rsJ tb dr xs t i j s = s1 → ∃ σ', f_M_reachSites_52 F k8 g m (nI t) (nI (tO t)) (nI i) (nI (j + 1)) (mh m h σ1) = k8 m (nI t) (nI (tO t)) (nI (i + 1)) (mh m h σ') ∧ RR N σ' (itr (rsJ tb dr xs t i) j (c + 1) s) ∧ FR [98] [] [66, 67] [] σ σ' := by
      intro σ1 s1 a1 a2 a3
      obtain ⟨σ', j1, j2, j3⟩ := ih (j + 1) g σ1 s1 (by omega) (by omega) (RWd_FR hR a1 (by decide) (by decide) (by decide)) a2
      rw [itr_s, a3]
      exact ⟨σ', j1, j2, FR_trans a1 j3⟩
    unfold f_M_reachSites_52 f_M_reachSites_147
    rw [e_o hm, bs, O_sN hm (by omega) hb h1 hi hs, xb_mk, if_neg (nI_ge (by omega) (by omega)), e_o hm, bs, O_site hm (by omega) hb hi, xb_mk, e_o hm, bs, nI_add, O_sY hm (by omega) hb hp, xb_mk, e_o hm, bs, O_site hm (by omega) hb hi, xb_mk, e_o hm, bs, nI_add, O_sH hm (by omega) hb hp, xb_mk, lN_i, nI_add]
    by_cases c1 : sH (tb t) i j = 0
    · rw [if_pos (by rw [c1])]
      exact step σ s (FR_refl σ) hS (by unfold rsJ; rw [if_pos c1])
    · rw [if_neg (fun q => c1 ((lEQ (by omega) (by decide)).mp q))]
      have hst : rsJ tb dr xs t i j s = rs1 (secY tb dr xs t (sY (tb t) i j)) (rn1 (comY tb xs t (sY (tb t) i j)) s) := by unfold rsJ; rw [if_neg c1]
      by_cases c2 : sY (tb t) i j = 0
      · rw [if_pos (by rw [c2]; rfl)]
        refine step σ s (FR_refl σ) hS ?_
        rw [hst]
        unfold secY comY
        rw [if_pos c2, if_pos (Or.inl c2)]
        rfl
      · rw [if_neg (show ¬ nI (sY (tb t) i j) = 0 from fun q => c2 ((nI_eq (b := 0) (by omega) (by decide)).mp q))]
        obtain ⟨σ1, b1, b2, b3⟩ := q_reachY (F := F) (k := sY (tb t) i j) (s := s) (K := fun _ ph => f_M_reachSites_52 F k8 g m (nI t) (nI (tO t)) (nI i) (nI (j + 1)) ph) hm hF hW hR ht (by omega) hok.2.1 hS
        rw [b1]
        exact step σ1 _ b3 b2 hst
theorem q_rS_8 (hm : m ≤ h.length) (hF : 65536 < F) (hW : WP T tb dr xs) (ht : t < T) : ∀ (c i g : Nat) (σ : px_S) (s : px_RR), 1 ≤ i → i + c = oS (tb t) → c < g → RWd σ T tO tn tb dr xs → RR N σ s → ∃ σ', f_M_reachSites_8 F g m (nI t) (nI (tO t)) (nI i) (mh m h σ) = some ((), mh m h σ') ∧ RR N σ' (itr (rsI tb dr xs t) i c s) ∧ FR [98] [] [66, 67] [] σ σ' := by
  intro c
  induction c with
  | zero =>
    intro i g σ s h1 hi hg hR hS
    obtain ⟨g, rfl⟩ : ∃ x, g = x + 1 := ⟨g - 1, by omega⟩
    have hb := hR.1 t ht
    have hs24 := (OB_w hb).1.2.1.2
    unfold f_M_reachSites_8 f_M_reachSites_159
    rw [e_o hm, bs, O_sec hm (by omega) hb, xb_mk, if_pos (nI_le (by omega) (by omega))]
    exact ⟨σ, rfl, hS, FR_refl σ⟩
  | succ c ih =>
    intro i g σ s h1 hi hg hR hS
    obtain ⟨g, rfl⟩ : ∃ x, g = x + 1 := ⟨g - 1, by omega⟩
    have hb := hR.1 t ht
    have hs24 := (OB_w hb).1.2.1.2
    have ht64 := hb.1.1
    have hiS : i < oS (tb t) := by omega
    have step : ∀ σ1 s1, FR [98] [] [66, 67] [] σ σ1 → RR N σ1 s1 → rsI tb dr xs t i s = s1 → ∃ σ', f_M_reachSites_8 F g m (nI t) (nI (tO t)) (nI (i + 1)) (mh m h σ1) = some ((), mh m h σ') ∧ RR N σ' (itr (rsI tb dr xs t) i (c + 1) s) ∧ FR [98] [] [66, 67] [] σ σ' := by
      intro σ1 s1 a1 a2 a3
      obtain ⟨σ', j1, j2, j3⟩ := ih (i + 1) g σ1 s1 (by omega) (by omega) (by omega) (RWd_FR hR a1 (by decide) (by decide) (by decide)) a2
      rw [itr_s, a3]
      exact ⟨σ', j1, j2, FR_trans a1 j3⟩
    unfold f_M_reachSites_8 f_M_reachSites_153
    rw [e_o hm, bs, O_sec hm (by omega) hb, xb_mk, if_neg (nI_ge (by omega) (by omega)), e_o hm, bs, O_isS hm (by omega) hb hiS, xb_mk, nI_add]
    cases es : isS (tb t) i with
    | false =>
      rw [if_pos (show bI false = 0 from rfl)]
      exact step σ s (FR_refl σ) hS (by unfold rsI; rw [if_neg (fun q => by rw [es] at q; exact nomatch q.1)])
    | true =>
      have he := eSit_0 hb.2.2.2.1 h1 hiS es
      have ho := he.1
      rw [if_neg (show ¬ bI true = 0 by decide), Mr66 hm, bs, e_o hm, bs, O_info hm (by omega) hb hiS, xb_mk, lN_i, pk_mul, nI_add, Ma66 hm (by omega), bs, hS.1 _ (by omega)]
      cases er : s.1 (24 * t + oI (tb t) i) with
      | false =>
        rw [if_pos (show bI false = 0 from rfl)]
        exact step σ s (FR_refl σ) hS (by unfold rsI; rw [if_neg (fun q => by rw [er] at q; exact nomatch q.2)])
      | true =>
        rw [if_neg (show ¬ bI true = 0 by decide)]
        have hz := he.2.2.2.1
        have hn := hb.2.2.1
        have hsz : sN (tb t) i < 65536 := by unfold sN; omega
        obtain ⟨σ1, b1, b2, b3⟩ := q_rS_52 (F := F) (k8 := f_M_reachSites_8 F g) (σ := σ) (s := s) hm (by omega) hW ht h1 hiS es (sN (tb t) i) 0 F (by omega) (by omega) hR hS
        rw [b1]
        exact step σ1 _ b3 b2 (by unfold rsI; rw [if_pos ⟨es, er⟩])
theorem q_reachSites {σ : px_S} {s : px_RR} (hm : m ≤ h.length) (hF : 65536 < F) (hW : WP T tb dr xs) (ht : t < T) (hR : RWd σ T tO tn tb dr xs) (hS : RR N σ s) : ∃ σ', f_M_reachSites F m (nI t) (mh m h σ) = some ((), mh m h σ') ∧ RR N σ' (rsT tb dr xs t s) ∧ FR [98] [] [66, 67] [] σ σ' := by
  have hb := hR.1 t ht
  have hs24 := (OB_w hb).1.2.1
  unfold f_M_reachSites rsT
  rw [e_o hm, bs, O_obj hm hb, xb_mk]
  exact q_rS_8 hm hF hW ht (oS (tb t) - 1) 1 F σ s (by omega) (by omega) (by omega) hR hS
end MRT
