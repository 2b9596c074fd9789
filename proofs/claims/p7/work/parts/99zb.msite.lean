/-! sites of the reference: does a site run over -/
def rov (how : Nat) (v : Int64) : Bool := if how < 2 ∨ how = 18 then false else if how = 10 then !decide (((v.toUInt64 >>> ((nI 32).toInt64.toUInt64 &&& Int64.toUInt64 63)).toInt64) = (lN 0)) else decide (v < (-2147483648 : Int64)) || !decide (v ≤ (2147483647 : Int64))
theorem q_runsOver {F m how : Nat} {v : Int64} {h : px_H} (hh : how < 2 ^ 32) : f_M_runsOver F m (lN how) v h = some (bI (rov how v), h) := by
  unfold f_M_runsOver f_M_runsOver_16 f_M_runsOver_59 f_M_runsOver_64 rov
  by_cases c1 : how < 2
  · rw [if_pos (show lN how < (2 : Int64) from (pk_lLT (b := 2) (by omega) (by decide)).mpr c1), if_pos (Or.inl c1)]; rfl
  · rw [if_neg (show ¬ lN how < (2 : Int64) from fun q => c1 ((pk_lLT (b := 2) (by omega) (by decide)).mp q))]
    by_cases c2 : how = 18
    · rw [if_pos (show lN how = (18 : Int64) by rw [c2]; rfl), if_pos (Or.inr c2)]; rfl
    · rw [if_neg (show ¬ lN how = (18 : Int64) from fun q => c2 ((lEQ (b := 18) (by omega) (by decide)).mp q)), if_neg (show ¬ (how < 2 ∨ how = 18) from fun q => q.elim c1 c2)]
      by_cases c3 : how = 10
      · rw [if_pos (show lN how = (10 : Int64) by rw [c3]; rfl), if_pos c3]
        by_cases c4 : ((v.toUInt64 >>> ((nI 32).toInt64.toUInt64 &&& Int64.toUInt64 63)).toInt64) = (lN 0)
        · rw [if_pos c4, decide_eq_true c4, xz_0] <;> rfl
        · rw [if_neg c4, decide_eq_false c4, xz_1] <;> rfl
      · rw [if_neg (show ¬ lN how = (10 : Int64) from fun q => c3 ((lEQ (b := 10) (by omega) (by decide)).mp q)), if_neg c3]
        by_cases c4 : v < (-2147483648 : Int64)
        · rw [if_pos c4, decide_eq_true c4, xz_1] <;> rfl
        · rw [if_neg c4, decide_eq_false c4]
          by_cases c5 : v ≤ (2147483647 : Int64)
          · rw [if_pos c5, decide_eq_true c5, xz_0] <;> rfl
          · rw [if_neg c5, decide_eq_false c5, xz_1] <;> rfl
theorem oI_1 {b : Nat → Nat} {n i : Nat} (h : eObj b n = 0) (h1 : 1 ≤ i) (hi : i < oS b) (hs : isS b i = true) : 1 ≤ oI b i := by
  have h0 := eObj_T0 h
  have hk := (eSit_0 h h1 hi hs).2.1
  by_cases c : oI b i = 0
  · exfalso
    rw [c] at hk
    unfold oK at hk
    have := of_decide_eq_true hk
    omega
  · omega
section MSQ
variable {F m T t i : Nat} {h : px_H} {B : Nat → Nat} {tb : Nat → Nat → Nat} {tO tn tq : Nat → Nat} {dr : Nat → Bool} {xs : px_NL} {ll sl : List Nat} {on : Bool} {R : Nat → Bool} {NA : Nat → Int64} {ad : Nat → Nat} {sp tp pp : Nat} {k2 : Nat → Int32 → Int32 → px_H → Option (Unit × px_H)} {k19 : Nat → Int32 → Int32 → Int32 → Int32 → px_H → Option (Unit × px_H)}
theorem RFn_FR {σ σ' : px_S} {I J A Bs : List Nat} (hf : RFn σ T tO tn tq tb dr xs on R ll B sl NA ad sp tp pp) (f : FR I J A Bs σ σ') (hI : ∀ k, k ∈ [14, 20, 50, 68, 74, 88, 89] → k ∉ I) (hJ : ∀ k, k ∈ [79, 87, 90] → k ∉ J) (hA : ∀ k, k ∈ [6, 9, 17, 21, 22, 23, 24, 25, 26, 27, 28, 51, 52, 53, 54, 55, 56, 65, 66, 73, 75, 76, 77, 78, 91, 92, 93, 94, 95] → k ∉ A) (hB : ∀ k, k ∈ [29, 30, 58] → k ∉ Bs) : RFn σ' T tO tn tq tb dr xs on R ll B sl NA ad sp tp pp := by
  obtain ⟨⟨hW, hpo⟩, ⟨hd, hs, hr⟩, hsl, hna, had, h79, h87, h90, h14⟩ := hf
  refine ⟨⟨RWp_FR hW f (hI 50 (by decide)) (fun k hk => hA k (by revert k; decide)), RPo_FR hpo f ⟨hI 88 (by decide), hI 89 (by decide)⟩ (fun k hk => hA k (by revert k; decide))⟩, ⟨fun j hj => by rw [f.2.2.1 65 (hA 65 (by decide))]; exact hd j hj, RSt_FR hs f (hI 68 (by decide)) (hA 66 (by decide)), RL_FR hr f (hI 20 (by decide)) (fun k hk => hA k (by revert k; decide)) (hB 30 (by decide))⟩, ⟨(f.1 74 (hI 74 (by decide))).trans hsl.1, fun p z hz => ?_⟩, fun j hj => by rw [f.2.2.2 29 (hB 29 (by decide))]; exact hna j hj, fun x hx => by rw [f.2.2.2 58 (hB 58 (by decide))]; exact had x hx, (f.2.1 79 (hJ 79 (by decide))).trans h79, (f.2.1 87 (hJ 87 (by decide))).trans h87, (f.2.1 90 (hJ 90 (by decide))).trans h90, (f.1 14 (hI 14 (by decide))).trans h14⟩
  unfold RSr
  rw [f.2.2.1 78 (hA 78 (by decide)), f.2.2.1 75 (hA 75 (by decide)), f.2.2.1 76 (hA 76 (by decide)), f.2.2.1 77 (hA 77 (by decide))]
  exact hsl.2 p z hz
/-- site j of section i of object t runs over -/
def ovJ (SV : Nat → Nat → Nat → Int64) (tb : Nat → Nat → Nat) (t i j : Nat) : Bool := decide (sH (tb t) i j ≠ 0) && rov (sH (tb t) i j) (SV t i j)
def ovI (SV : Nat → Nat → Nat → Int64) (tb : Nat → Nat → Nat) (sy : Nat → Nat → Bool) (t i : Nat) : Bool := (isS (tb t) i && sy t (oI (tb t) i)) && ex1 (ovJ SV tb t i) 0 (sN (tb t) i)
def ovT (SV : Nat → Nat → Nat → Int64) (tb : Nat → Nat → Nat) (sy : Nat → Nat → Bool) (t : Nat) : Bool := ex1 (ovI SV tb sy t) 1 (oS (tb t) - 1)
/-- so far -/
def STo (σ : px_S) (b : Bool) (σc : px_S) : Prop := (b = false → σc = σ) ∧ (b = true → gI σc 13 = nI 4 ∧ FR [13] [16] [] [] σ σc)
theorem STo_FR {σ σc : px_S} {b : Bool} (hs : STo σ b σc) : FR [13] [16] [] [] σ σc := by
  cases b with
  | false => rw [hs.1 rfl]; exact FR_refl σ
  | true => exact (hs.2 rfl).2
theorem q_st_61 {σ : px_S} {SV : Nat → Nat → Nat → Int64} (hm : m ≤ h.length) (hF : 65540 < F) (hf : RFn σ T tO tn tq tb dr xs on R ll B (slL T tb dr xs (sta tb dr on R)) NA ad sp tp pp) (hN : FNo T tO tb dr xs (sta tb dr on R) ll B (slL T tb dr xs (sta tb dr on R))) (h13 : gI σ 13 = nI 0) (hSV : SV = fun t i j => siV B (pf0 B tO tb ll) tO tb dr xs (sta tb dr on R) (slL T tb dr xs (sta tb dr on R)) (syA tb xs (ownV B (pf0 B tO tb ll) tO tb dr (sta tb dr on R) pp ad) NA) (siA tb ad t i j) sp tp pp t i j) (ht : t < T) (h1 : 1 ≤ i) (hi : i < oS (tb t)) (hs : isS (tb t) i = true) (hsta : sta tb dr on R t (oI (tb t) i) = true) : ∀ (c j g : Nat) (σc : px_S) (b : Bool), j + c = sN (tb t) i → c < g → STo σ b σc → ∃ σd, f_M_sites_61 F k2 k19 g m (nI 0) (nI t) (nI (tO t)) (nI i) (nI j) (mh m h σc) = k19 m (nI 0) (nI t) (nI (tO t)) (nI (i + 1)) (mh m h σd) ∧ STo σ (b || ex1 (ovJ SV tb t i) j c) σd := by
  intro c
  induction c with
  | zero =>
    intro j g σc b hj hg hS
    obtain ⟨g, rfl⟩ : ∃ x, g = x + 1 := ⟨g - 1, by omega⟩
    have hfc := RFn_FR hf (STo_FR hS) (by decide) (by decide) (by decide) (by decide)
    have hb := hfc.1.1.1 t ht
    have hz := (eSit_0 hb.2.2.2.1 h1 hi hs).2.2.2.1
    have hn := hb.2.2.1
    have hsz : sN (tb t) i < 2 ^ 30 := by unfold sN; omega
    unfold f_M_sites_61 f_M_sites_96
    rw [e_o hm, bs, O_sN hm (by omega) hb h1 hi hs, xb_mk, if_pos (nI_le (by omega) (by omega)), nI_add]
    exact ⟨σc, rfl, by show STo σ (b || false) σc; rw [Bool.or_false]; exact hS⟩
  | succ c ih =>
    intro j g σc b hj hg hS
    obtain ⟨g, rfl⟩ : ∃ x, g = x + 1 := ⟨g - 1, by omega⟩
    have hfc := RFn_FR hf (STo_FR hS) (by decide) (by decide) (by decide) (by decide)
    have hb := hfc.1.1.1 t ht
    have he := eSit_0 hb.2.2.2.1 h1 hi hs
    have hz := he.2.2.2.1
    have hn := hb.2.2.1
    have hsz : sN (tb t) i < 2 ^ 30 := by unfold sN; omega
    have hjN : j < sN (tb t) i := by omega
    have hp := OB_sP hb h1 hi hs hjN
    have hsH : sH (tb t) i j < 2 ^ 32 := le_lt (OB_lt hb) _ 4
    have h1o := oI_1 hb.2.2.2.1 h1 hi hs
    unfold f_M_sites_61 f_M_sites_96
    rw [e_o hm, bs, O_sN hm (by omega) hb h1 hi hs, xb_mk, if_neg (nI_ge (by omega) (by omega)), Mg13 hm, bs, nI_add, nI_add, ex1_s]
    cases eb : b with
    | true =>
      rw [eb] at hS
      rw [(hS.2 rfl).1, if_neg (show ¬ nI 4 = 0 by decide)]
      exact ⟨σc, rfl, hS⟩
    | false =>
      rw [eb] at hS
      have ec := hS.1 rfl
      rw [ec] at hfc hb
      rw [ec, h13, if_pos (show nI 0 = 0 from rfl), e_o hm, bs]
      have e1 : ∃ σd, f_M_one F m (nI t) (nI i) (nI j) (nI 0) (mh m h σ) = some ((), mh m h σd) ∧ STo σ (ovJ SV tb t i j) σd := by
        unfold f_M_one f_M_one_138
        rw [e_o hm, bs, O_obj hm hb, xb_mk, e_o hm, bs, O_site hm (by omega) hb hi, xb_mk, e_o hm, bs, nI_add, O_sH hm (by omega) hb hp, xb_mk]
        by_cases c0 : sH (tb t) i j = 0
        · rw [if_pos (by rw [c0])]
          exact ⟨σ, rfl, fun _ => rfl, fun q => by unfold ovJ at q; rw [decide_eq_false (fun z => z c0)] at q; exact nomatch q⟩
        · have eov : ovJ SV tb t i j = rov (sH (tb t) i j) (SV t i j) := by unfold ovJ; rw [decide_eq_true c0, Bool.true_and]
          rw [eov, if_neg (fun q => c0 ((lEQ (by omega) (by decide)).mp q)), e_o hm, bs, q_siteValue hm hF hfc hN ht h1 hi hs hjN hsta h1o, xb_mk, if_pos (show nI 0 = 0 from rfl), e_o hm, bs, q_runsOver hsH, xb_mk]
          rw [show siV B (pf0 B tO tb ll) tO tb dr xs (sta tb dr on R) (slL T tb dr xs (sta tb dr on R)) (syA tb xs (ownV B (pf0 B tO tb ll) tO tb dr (sta tb dr on R) pp ad) NA) (siA tb ad t i j) sp tp pp t i j = SV t i j by rw [hSV]]
          cases er : rov (sH (tb t) i j) (SV t i j) with
          | false =>
            rw [if_pos (show bI false = 0 from rfl)]
            exact ⟨σ, rfl, fun _ => rfl, fun q => nomatch q⟩
          | true =>
            have f1 := FR_I σ 13 (nI 4)
            have hf1 := RFn_FR hfc f1 (by decide) (by decide) (by decide) (by decide)
            rw [if_neg (show ¬ bI true = 0 by decide), Mp13 hm, bs, e_o hm, bs, q_siteAddress hm hF hf1 hN ht h1 hi hs hjN hsta h1o, xb_mk, Mp16 hm, bs]
            exact ⟨_, rfl, fun q => (nomatch q), fun _ => ⟨by rw [gI_sJ, gI_sI, if_pos rfl], FR_trans (FR_mono f1 (by decide) (by decide) (by decide) (by decide)) (FR_mono (FR_J _ 16 _) (by decide) (by decide) (by decide) (by decide))⟩⟩
      obtain ⟨σd, d1, d2⟩ := e1
      rw [d1, xb_mk, Bool.false_or]
      obtain ⟨σe, g1, g2⟩ := ih (j + 1) g σd (ovJ SV tb t i j) (by omega) (by omega) d2
      exact ⟨σe, g1, g2⟩
theorem q_st_19 {σ : px_S} {SV : Nat → Nat → Nat → Int64} (hm : m ≤ h.length) (hF : 65540 < F) (hf : RFn σ T tO tn tq tb dr xs on R ll B (slL T tb dr xs (sta tb dr on R)) NA ad sp tp pp) (hN : FNo T tO tb dr xs (sta tb dr on R) ll B (slL T tb dr xs (sta tb dr on R))) (h13 : gI σ 13 = nI 0) (hSV : SV = fun t i j => siV B (pf0 B tO tb ll) tO tb dr xs (sta tb dr on R) (slL T tb dr xs (sta tb dr on R)) (syA tb xs (ownV B (pf0 B tO tb ll) tO tb dr (sta tb dr on R) pp ad) NA) (siA tb ad t i j) sp tp pp t i j) (ht : t < T) : ∀ (c i g : Nat) (σc : px_S) (b : Bool), 1 ≤ i → i + c = oS (tb t) → c < g → STo σ b σc → ∃ σd, f_M_sites_19 F k2 g m (nI 0) (nI t) (nI (tO t)) (nI i) (mh m h σc) = k2 m (nI 0) (nI (t + 1)) (mh m h σd) ∧ STo σ (b || ex1 (ovI SV tb (sta tb dr on R) t) i c) σd := by
  intro c
  induction c with
  | zero =>
    intro i g σc b h1 hi hg hS
    obtain ⟨g, rfl⟩ : ∃ x, g = x + 1 := ⟨g - 1, by omega⟩
    have hfc := RFn_FR hf (STo_FR hS) (by decide) (by decide) (by decide) (by decide)
    have hb := hfc.1.1.1 t ht
    have hs24 := (OB_w hb).1.2.1.2
    unfold f_M_sites_19 f_M_sites_102
    rw [e_o hm, bs, O_sec hm (by omega) hb, xb_mk, if_pos (nI_le (by omega) (by omega)), nI_add]
    exact ⟨σc, rfl, by show STo σ (b || false) σc; rw [Bool.or_false]; exact hS⟩
  | succ c ih =>
    intro i g σc b h1 hi hg hS
    obtain ⟨g, rfl⟩ : ∃ x, g = x + 1 := ⟨g - 1, by omega⟩
    have hfc := RFn_FR hf (STo_FR hS) (by decide) (by decide) (by decide) (by decide)
    have hb := hfc.1.1.1 t ht
    have hs24 := (OB_w hb).1.2.1.2
    have hiS : i < oS (tb t) := by omega
    have step : ∀ σd b', b' = (b || ovI SV tb (sta tb dr on R) t i) → STo σ b' σd → ∃ σe, f_M_sites_19 F k2 g m (nI 0) (nI t) (nI (tO t)) (nI (i + 1)) (mh m h σd) = k2 m (nI 0) (nI (t + 1)) (mh m h σe) ∧ STo σ (b || (ovI SV tb (sta tb dr on R) t i || ex1 (ovI SV tb (sta tb dr on R) t) (i + 1) c)) σe := fun σd b' hb' hS' => by
      obtain ⟨σe, g1, g2⟩ := ih (i + 1) g σd b' (by omega) (by omega) (by omega) hS'
      rw [hb', Bool.or_assoc] at g2
      exact ⟨σe, g1, g2⟩
    unfold f_M_sites_19 f_M_sites_96
    rw [e_o hm, bs, O_sec hm (by omega) hb, xb_mk, if_neg (nI_ge (by omega) (by omega)), e_o hm, bs, O_isS hm (by omega) hb hiS, xb_mk, nI_add, ex1_s]
    cases es : isS (tb t) i with
    | false =>
      rw [if_pos (show bI false = 0 from rfl)]
      exact step σc b (by unfold ovI; rw [es, Bool.false_and, Bool.false_and, Bool.or_false]) hS
    | true =>
      have he := eSit_0 hb.2.2.2.1 h1 hiS es
      rw [if_neg (show ¬ bI true = 0 by decide), e_o hm, bs, O_info hm (by omega) hb hiS, xb_mk, lN_i, e_o hm, bs, q_stays hm (by omega) hb hfc.2.1.1 hfc.2.1.2.1 he.1, xb_mk]
      cases er : sta tb dr on R t (oI (tb t) i) with
      | false =>
        rw [if_pos (show bI false = 0 from rfl)]
        exact step σc b (by unfold ovI; rw [er, Bool.and_false, Bool.false_and, Bool.or_false]) hS
      | true =>
        rw [if_neg (show ¬ bI true = 0 by decide)]
        have hz := he.2.2.2.1
        have hn := hb.2.2.1
        have hsz : sN (tb t) i < 65536 := by unfold sN; omega
        obtain ⟨σd, d1, d2⟩ := q_st_61 (F := F) (k2 := k2) (k19 := f_M_sites_19 F k2 g) (SV := SV) hm hF hf hN h13 hSV ht h1 hiS es er (sN (tb t) i) 0 F σc b (by omega) (by omega) hS
        rw [d1]
        exact step σd _ (by unfold ovI; rw [es, er, Bool.true_and, Bool.true_and]) d2
theorem q_st_2 {σ : px_S} {SV : Nat → Nat → Nat → Int64} (hm : m ≤ h.length) (hF : 65540 < F) (hf : RFn σ T tO tn tq tb dr xs on R ll B (slL T tb dr xs (sta tb dr on R)) NA ad sp tp pp) (hN : FNo T tO tb dr xs (sta tb dr on R) ll B (slL T tb dr xs (sta tb dr on R))) (h13 : gI σ 13 = nI 0) (hSV : SV = fun t i j => siV B (pf0 B tO tb ll) tO tb dr xs (sta tb dr on R) (slL T tb dr xs (sta tb dr on R)) (syA tb xs (ownV B (pf0 B tO tb ll) tO tb dr (sta tb dr on R) pp ad) NA) (siA tb ad t i j) sp tp pp t i j) : ∀ (c t g : Nat) (σc : px_S) (b : Bool), t + c = T → c < g → STo σ b σc → ∃ σd, f_M_sites_2 F g m (nI 0) (nI t) (mh m h σc) = some ((), mh m h σd) ∧ STo σ (b || ex1 (ovT SV tb (sta tb dr on R)) t c) σd := by
  have hT := hN.1.1
  intro c
  induction c with
  | zero =>
    intro t g σc b ht hg hS
    obtain ⟨g, rfl⟩ : ∃ x, g = x + 1 := ⟨g - 1, by omega⟩
    have hfc := RFn_FR hf (STo_FR hS) (by decide) (by decide) (by decide) (by decide)
    unfold f_M_sites_2 f_M_sites_108
    rw [Mg14 hm, bs, hfc.2.2.2.2.2.2.2.2, if_pos (nI_le (by omega) (by omega))]
    exact ⟨σc, rfl, by show STo σ (b || false) σc; rw [Bool.or_false]; exact hS⟩
  | succ c ih =>
    intro t g σc b ht hg hS
    obtain ⟨g, rfl⟩ : ∃ x, g = x + 1 := ⟨g - 1, by omega⟩
    have hfc := RFn_FR hf (STo_FR hS) (by decide) (by decide) (by decide) (by decide)
    have hb := hfc.1.1.1 t (by omega)
    have hs24 := (OB_w hb).1.2.1
    obtain ⟨σd, d1, d2⟩ := q_st_19 (F := F) (k2 := f_M_sites_2 F g) (SV := SV) (t := t) hm hF hf hN h13 hSV (by omega) (oS (tb t) - 1) 1 F σc b (by omega) (by omega) (by omega) hS
    obtain ⟨σe, g1, g2⟩ := ih (t + 1) g σd _ (by omega) (by omega) d2
    unfold f_M_sites_2
    rw [Mg14 hm, bs, hfc.2.2.2.2.2.2.2.2, if_neg (nI_ge (by omega) (by omega)), e_o hm, bs, O_obj hm hb, xb_mk, d1, g1, ex1_s]
    rw [Bool.or_assoc] at g2
    exact ⟨σe, rfl, g2⟩
theorem q_sites {σ : px_S} {SV : Nat → Nat → Nat → Int64} (hm : m ≤ h.length) (hF : 65540 < F) (hf : RFn σ T tO tn tq tb dr xs on R ll B (slL T tb dr xs (sta tb dr on R)) NA ad sp tp pp) (hN : FNo T tO tb dr xs (sta tb dr on R) ll B (slL T tb dr xs (sta tb dr on R))) (h13 : gI σ 13 = nI 0) (hSV : SV = fun t i j => siV B (pf0 B tO tb ll) tO tb dr xs (sta tb dr on R) (slL T tb dr xs (sta tb dr on R)) (syA tb xs (ownV B (pf0 B tO tb ll) tO tb dr (sta tb dr on R) pp ad) NA) (siA tb ad t i j) sp tp pp t i j) : ∃ σd, f_M_sites F m (nI 0) (mh m h σ) = some ((), mh m h σd) ∧ STo σ (ex1 (ovT SV tb (sta tb dr on R)) 0 T) σd := by
  have hT := hN.1.1
  have := q_st_2 (F := F) (h := h) (SV := SV) hm hF hf hN h13 hSV T 0 F σ false (by omega) (by omega) ⟨fun _ => rfl, fun q => nomatch q⟩
  rw [Bool.false_or] at this
  exact this
end MSQ
