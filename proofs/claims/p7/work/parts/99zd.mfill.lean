/-! sites of the reference: they are filled -/
def RSp (σ : px_S) (fpS bgS : Nat → Nat) : Prop := ∀ s, s < 3 → gB σ 60 s = lN (fpS s) ∧ gB σ 61 s = lN (bgS s)
/-- the sections with bytes lie within the file -/
def hLo (tb : Nat → Nat → Nat) (ll : List Nat) (ad fpS bgS : Nat → Nat) : Prop := ∀ x, x ∈ ll → sS tb x = false → oG (tb (x / 24)) (x % 24) ≠ 3 → oG (tb (x / 24)) (x % 24) ≠ 5 → 0 < zS tb x → bgS (sgO (oG (tb (x / 24)) (x % 24))) ≤ ad x ∧ fpS (sgO (oG (tb (x / 24)) (x % 24))) + (ad x + zS tb x - bgS (sgO (oG (tb (x / 24)) (x % 24)))) ≤ 65536
theorem oG_8 {b : Nat → Nat} {i : Nat} (h : oT b i ≠ 8) : oG b i ≠ 3 ∧ oG b i ≠ 5 := by
  unfold oG
  rw [if_neg h, if_neg h]
  constructor
  · intro e
    split at e
    · cases e
    · split at e
      · cases e
      · split at e <;> cases e
  · intro e
    split at e
    · cases e
    · split at e
      · cases e
      · split at e <;> cases e
theorem sS_no {b : Nat → Nat} {i : Nat} (hi : i < oS b) (hs : isS b i = true) : oStr b (oI b i) = false := by
  cases e : oStr b (oI b i) with
  | false => rfl
  | true =>
    exfalso
    unfold oStr at e
    rw [Bool.and_eq_true] at e
    have := al_iffw.mp e.2 i (Nat.zero_le _) (by omega)
    rw [hs, decide_eq_true rfl] at this
    cases this
theorem sgO_2 {g : Nat} : sgO g ≤ 2 := by unfold sgO; split <;> omega
section MFI
variable {F m T t i : Nat} {h : px_H} {B : Nat → Nat} {tb : Nat → Nat → Nat} {tO tn tq : Nat → Nat} {dr : Nat → Bool} {xs : px_NL} {ll : List Nat} {on : Bool} {R : Nat → Bool} {NA : Nat → Int64} {ad fpS bgS : Nat → Nat} {sp tp pp : Nat} {k2 : Nat → Int32 → Int32 → px_H → Option (Unit × px_H)} {k19 : Nat → Int32 → Int32 → Int32 → Int32 → px_H → Option (Unit × px_H)}
/-- what the filling reads -/
def RFo (σ : px_S) (T : Nat) (tO tn tq : Nat → Nat) (tb : Nat → Nat → Nat) (dr : Nat → Bool) (xs : px_NL) (on : Bool) (R : Nat → Bool) (ll : List Nat) (B : Nat → Nat) (NA : Nat → Int64) (ad fpS bgS : Nat → Nat) (sp tp pp : Nat) : Prop := RFn σ T tO tn tq tb dr xs on R ll B (slL T tb dr xs (sta tb dr on R)) NA ad sp tp pp ∧ RSp σ fpS bgS ∧ gI σ 13 = nI 0 ∧ ∀ k, isB (gA σ 3 k)
theorem RFo_W {σ σ' : px_S} (hf : RFo σ T tO tn tq tb dr xs on R ll B NA ad fpS bgS sp tp pp) (w : WRo σ σ') : RFo σ' T tO tn tq tb dr xs on R ll B NA ad fpS bgS sp tp pp := ⟨RFn_FR hf.1 w.1 (by decide) (by decide) (by decide) (by decide), fun s hs => by rw [w.1.2.2.2 60 (by decide), w.1.2.2.2 61 (by decide)]; exact hf.2.1 s hs, (w.1.1 13 (by decide)).trans hf.2.2.1, w.2⟩
theorem q_one1 {σ : px_S} {j : Nat} (hm : m ≤ h.length) (hF : 65540 < F) (hf : RFo σ T tO tn tq tb dr xs on R ll B NA ad fpS bgS sp tp pp) (hN : FNo T tO tb dr xs (sta tb dr on R) ll B (slL T tb dr xs (sta tb dr on R))) (hlo : hLo tb ll ad fpS bgS) (had : ∀ x, ad x ≤ 2 ^ 39) (hfp : ∀ s, fpS s ≤ 2 ^ 39) (ht : t < T) (h1 : 1 ≤ i) (hi : i < oS (tb t)) (hs : isS (tb t) i = true) (hj : j < sN (tb t) i) (hsta : sta tb dr on R t (oI (tb t) i) = true) : ∃ σ', f_M_one F m (nI t) (nI i) (nI j) (nI 1) (mh m h σ) = some ((), mh m h σ') ∧ WRo σ σ' := by
  have hfn := hf.1
  have hb := hfn.1.1.1 t ht
  have he := eSit_0 hb.2.2.2.1 h1 hi hs
  have hok := sOK_0w (he.2.2.2.2.2 j hj)
  have h1o := oI_1 hb.2.2.2.1 h1 hi hs
  have hp := OB_sP hb h1 hi hs hj
  have hS24 := (OB_w hb).1.2.1.2
  have hsH : sH (tb t) i j < 2 ^ 32 := le_lt (OB_lt hb) _ 4
  unfold f_M_one f_M_one_138
  rw [e_o hm, bs, O_obj hm hb, xb_mk, e_o hm, bs, O_site hm (by omega) hb hi, xb_mk, e_o hm, bs, nI_add, O_sH hm (by omega) hb hp, xb_mk]
  by_cases c0 : sH (tb t) i j = 0
  · rw [if_pos (by rw [c0])]
    exact ⟨σ, rfl, FR_refl σ, hf.2.2.2⟩
  · have hwd0 : wd (sH (tb t) i j) ≠ 0 := fun e => by
      unfold wd at e
      rw [if_neg c0] at e
      split at e
      · cases e
      · split at e <;> cases e
    have h8 := hok.2.2.elim (fun q => absurd q hwd0) id
    have hin := hN.2.2.2.2.1 t (oI (tb t) i) ht h1o he.1 hsta
    have e1 : (24 * t + oI (tb t) i) / 24 = t := by have := he.1; omega
    have e2 : (24 * t + oI (tb t) i) % 24 = oI (tb t) i := by have := he.1; omega
    have ez : zS tb (24 * t + oI (tb t) i) = oZ (tb t) (oI (tb t) i) := by unfold zS; rw [e1, e2]
    have hG := oG_8 h8.1
    have hl := hlo _ hin (by unfold sS; rw [e1, e2]; exact sS_no hi hs) (by rw [e1, e2]; exact hG.1) (by rw [e1, e2]; exact hG.2) (by rw [ez]; omega)
    rw [e1, e2, ez] at hl
    have hg5 : oG (tb t) (oI (tb t) i) ≤ 5 := by unfold oG; repeat (first | omega | split)
    have hsg := sgO_2 (g := oG (tb t) (oI (tb t) i))
    generalize hsv : sgO (oG (tb t) (oI (tb t) i)) = s at *
    obtain ⟨r60, r61⟩ := hf.2.1 s (by omega)
    have hadx := had (24 * t + oI (tb t) i)
    have hfpx := hfp s
    generalize hav : ad (24 * t + oI (tb t) i) = a at *
    have hwd8 : wd (sH (tb t) i j) ≤ 8 := by
      have h16 := hok.1
      unfold wd at h16 ⊢
      repeat (first | omega | (split at h16 <;> split) | (exfalso; omega))
    have esi : siA tb ad t i j = lN (a + sL (tb t) i j) := by unfold siA; rw [hav]
    have ewd : wI (sH (tb t) i j) = nI (wd (sH (tb t) i j)) := by unfold wI; rw [if_neg hok.1]
    have hsk3 := skY_3 (tb := tb) (dr := dr) (xs := xs) (t := t) (i := i) (j := j)
    have hskL : 0 < skY tb dr xs t i j → 2 ≤ sL (tb t) i j ∧ wd (sH (tb t) i j) = 4 := fun q => by
      unfold skY at q
      split at q
      · rename_i c
        refine ⟨c.2.2.1, ?_⟩
        rcases c.1 with e | e <;> rw [e] <;> rfl
      · omega
    obtain ⟨σ', f1, f2⟩ := q_fillSite (F := F) (h := h) (σ := σ) (at0 := fpS s + (a + sL (tb t) i j) - bgS s) (n := wd (sH (tb t) i j)) (sk := skY tb dr xs t i j) (v := siV B (pf0 B tO tb ll) tO tb dr xs (sta tb dr on R) (slL T tb dr xs (sta tb dr on R)) (syA tb xs (ownV B (pf0 B tO tb ll) tO tb dr (sta tb dr on R) pp ad) NA) (siA tb ad t i j) sp tp pp t i j) hm (by omega) (by omega) hsk3 (fun q => by have := hskL q; omega) hf.2.2.2
    refine ⟨σ', ?_, f2⟩
    rw [if_neg (fun q => c0 ((lEQ (by omega) (by decide)).mp q)), e_o hm, bs, q_siteValue hm hF hfn hN ht h1 hi hs hj hsta h1o, xb_mk, if_neg (show ¬ nI 1 = 0 by decide), e_o hm, bs, O_info hm (by omega) hb hi, xb_mk, lN_i, e_o hm, bs, O_group hm (by omega) hb he.1, xb_mk, q_segmentOf (by omega), xb_mk, hsv, Mr60 hm, bs, Ma60 hm (by omega), bs, r60, e_o hm, bs, q_siteAddress hm hF hfn hN ht h1 hi hs hj hsta h1o, xb_mk, Mr61 hm, bs, Ma61 hm (by omega), bs, r61, q_width (by omega), xb_mk, e_o hm, bs, q_shortKind hm (by omega) hN.1 ⟨hfn.1.1.1, hfn.2.1.1, hfn.2.1.2.2⟩ ht h1 hi hs hj, xb_mk, e_o hm, bs, ewd]
    rw [show (lN (fpS s) + siA tb ad t i j - lN (bgS s)).toInt32 = nI (fpS s + (a + sL (tb t) i j) - bgS s) by rw [esi, lN_add, lN_sub (by omega), lN_i], f1, xb_mk]
theorem q_f1_61 (hm : m ≤ h.length) (hF : 65540 < F) (hN : FNo T tO tb dr xs (sta tb dr on R) ll B (slL T tb dr xs (sta tb dr on R))) (hlo : hLo tb ll ad fpS bgS) (had : ∀ x, ad x ≤ 2 ^ 39) (hfp : ∀ s, fpS s ≤ 2 ^ 39) (ht : t < T) (h1 : 1 ≤ i) (hi : i < oS (tb t)) (hs : isS (tb t) i = true) (hsta : sta tb dr on R t (oI (tb t) i) = true) : ∀ (c j g : Nat) (σ : px_S), j + c = sN (tb t) i → c < g → RFo σ T tO tn tq tb dr xs on R ll B NA ad fpS bgS sp tp pp → ∃ σd, f_M_sites_61 F k2 k19 g m (nI 1) (nI t) (nI (tO t)) (nI i) (nI j) (mh m h σ) = k19 m (nI 1) (nI t) (nI (tO t)) (nI (i + 1)) (mh m h σd) ∧ WRo σ σd := by
  intro c
  induction c with
  | zero =>
    intro j g σ hj hg hf
    obtain ⟨g, rfl⟩ : ∃ x, g = x + 1 := ⟨g - 1, by omega⟩
    have hb := hf.1.1.1.1 t ht
    have hz := (eSit_0 hb.2.2.2.1 h1 hi hs).2.2.2.1
    have hn := hb.2.2.1
    have hsz : sN (tb t) i < 2 ^ 30 := by unfold sN; omega
    unfold f_M_sites_61 f_M_sites_96
    rw [e_o hm, bs, O_sN hm (by omega) hb h1 hi hs, xb_mk, if_pos (nI_le (by omega) (by omega)), nI_add]
    exact ⟨σ, rfl, FR_refl σ, hf.2.2.2⟩
  | succ c ih =>
    intro j g σ hj hg hf
    obtain ⟨g, rfl⟩ : ∃ x, g = x + 1 := ⟨g - 1, by omega⟩
    have hb := hf.1.1.1.1 t ht
    have hz := (eSit_0 hb.2.2.2.1 h1 hi hs).2.2.2.1
    have hn := hb.2.2.1
    have hsz : sN (tb t) i < 2 ^ 30 := by unfold sN; omega
    obtain ⟨σ1, a1, a2⟩ := q_one1 (F := F) (j := j) hm hF hf hN hlo had hfp ht h1 hi hs (by omega) hsta
    obtain ⟨σ2, b1, b2⟩ := ih (j + 1) g σ1 (by omega) (by omega) (RFo_W hf a2)
    unfold f_M_sites_61
    rw [e_o hm, bs, O_sN hm (by omega) hb h1 hi hs, xb_mk, if_neg (nI_ge (by omega) (by omega)), Mg13 hm, bs, hf.2.2.1, if_pos (show nI 0 = 0 from rfl), e_o hm, bs, a1, xb_mk, nI_add]
    exact ⟨σ2, b1, WRo_tr a2 b2⟩
theorem q_f1_19 (hm : m ≤ h.length) (hF : 65540 < F) (hN : FNo T tO tb dr xs (sta tb dr on R) ll B (slL T tb dr xs (sta tb dr on R))) (hlo : hLo tb ll ad fpS bgS) (had : ∀ x, ad x ≤ 2 ^ 39) (hfp : ∀ s, fpS s ≤ 2 ^ 39) (ht : t < T) : ∀ (c i g : Nat) (σ : px_S), 1 ≤ i → i + c = oS (tb t) → c < g → RFo σ T tO tn tq tb dr xs on R ll B NA ad fpS bgS sp tp pp → ∃ σd, f_M_sites_19 F k2 g m (nI 1) (nI t) (nI (tO t)) (nI i) (mh m h σ) = k2 m (nI 1) (nI (t + 1)) (mh m h σd) ∧ WRo σ σd := by
  intro c
  induction c with
  | zero =>
    intro i g σ h1 hi hg hf
    obtain ⟨g, rfl⟩ : ∃ x, g = x + 1 := ⟨g - 1, by omega⟩
    have hb := hf.1.1.1.1 t ht
    have hs24 := (OB_w hb).1.2.1.2
    unfold f_M_sites_19 f_M_sites_102
    rw [e_o hm, bs, O_sec hm (by omega) hb, xb_mk, if_pos (nI_le (by omega) (by omega)), nI_add]
    exact ⟨σ, rfl, FR_refl σ, hf.2.2.2⟩
  | succ c ih =>
    intro i g σ h1 hi hg hf
    obtain ⟨g, rfl⟩ : ∃ x, g = x + 1 := ⟨g - 1, by omega⟩
    have hb := hf.1.1.1.1 t ht
    have hs24 := (OB_w hb).1.2.1.2
    have hiS : i < oS (tb t) := by omega
    have nx : ∀ σ1, WRo σ σ1 → ∃ σd, f_M_sites_19 F k2 g m (nI 1) (nI t) (nI (tO t)) (nI (i + 1)) (mh m h σ1) = k2 m (nI 1) (nI (t + 1)) (mh m h σd) ∧ WRo σ σd := fun σ1 w => by
      obtain ⟨σ2, b1, b2⟩ := ih (i + 1) g σ1 (by omega) (by omega) (by omega) (RFo_W hf w)
      exact ⟨σ2, b1, WRo_tr w b2⟩
    unfold f_M_sites_19 f_M_sites_96
    rw [e_o hm, bs, O_sec hm (by omega) hb, xb_mk, if_neg (nI_ge (by omega) (by omega)), e_o hm, bs, O_isS hm (by omega) hb hiS, xb_mk, nI_add]
    cases es : isS (tb t) i with
    | false =>
      rw [if_pos (show bI false = 0 from rfl)]
      exact nx σ ⟨FR_refl σ, hf.2.2.2⟩
    | true =>
      have he := eSit_0 hb.2.2.2.1 h1 hiS es
      rw [if_neg (show ¬ bI true = 0 by decide), e_o hm, bs, O_info hm (by omega) hb hiS, xb_mk, lN_i, e_o hm, bs, q_stays hm (by omega) hb hf.1.2.1.1 hf.1.2.1.2.1 he.1, xb_mk]
      cases er : sta tb dr on R t (oI (tb t) i) with
      | false =>
        rw [if_pos (show bI false = 0 from rfl)]
        exact nx σ ⟨FR_refl σ, hf.2.2.2⟩
      | true =>
        have hz := he.2.2.2.1
        have hn := hb.2.2.1
        have hsz : sN (tb t) i < 65536 := by unfold sN; omega
        obtain ⟨σ1, d1, d2⟩ := q_f1_61 (F := F) (k2 := k2) (k19 := f_M_sites_19 F k2 g) hm hF hN hlo had hfp ht h1 hiS es er (sN (tb t) i) 0 F σ (by omega) (by omega) hf
        rw [if_neg (show ¬ bI true = 0 by decide), d1]
        exact nx σ1 d2
theorem q_sites1 (hm : m ≤ h.length) (hF : 65540 < F) (hN : FNo T tO tb dr xs (sta tb dr on R) ll B (slL T tb dr xs (sta tb dr on R))) (hlo : hLo tb ll ad fpS bgS) (had : ∀ x, ad x ≤ 2 ^ 39) (hfp : ∀ s, fpS s ≤ 2 ^ 39) : ∀ (c t g : Nat) (σ : px_S), t + c = T → c < g → RFo σ T tO tn tq tb dr xs on R ll B NA ad fpS bgS sp tp pp → ∃ σd, f_M_sites_2 F g m (nI 1) (nI t) (mh m h σ) = some ((), mh m h σd) ∧ WRo σ σd := by
  have hT := hN.1.1
  intro c
  induction c with
  | zero =>
    intro t g σ ht hg hf
    obtain ⟨g, rfl⟩ : ∃ x, g = x + 1 := ⟨g - 1, by omega⟩
    unfold f_M_sites_2 f_M_sites_108
    rw [Mg14 hm, bs, hf.1.2.2.2.2.2.2.2.2, if_pos (nI_le (by omega) (by omega))]
    exact ⟨σ, rfl, FR_refl σ, hf.2.2.2⟩
  | succ c ih =>
    intro t g σ ht hg hf
    obtain ⟨g, rfl⟩ : ∃ x, g = x + 1 := ⟨g - 1, by omega⟩
    have hb := hf.1.1.1.1 t (by omega)
    have hs24 := (OB_w hb).1.2.1
    obtain ⟨σ1, a1, a2⟩ := q_f1_19 (F := F) (k2 := f_M_sites_2 F g) (t := t) hm hF hN hlo had hfp (by omega) (oS (tb t) - 1) 1 F σ (by omega) (by omega) (by omega) hf
    obtain ⟨σ2, b1, b2⟩ := ih (t + 1) g σ1 (by omega) (by omega) (RFo_W hf a2)
    unfold f_M_sites_2
    rw [Mg14 hm, bs, hf.1.2.2.2.2.2.2.2.2, if_neg (nI_ge (by omega) (by omega)), e_o hm, bs, O_obj hm hb, xb_mk, a1, b1]
    exact ⟨σ2, rfl, WRo_tr a2 b2⟩
end MFI
