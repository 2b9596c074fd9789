/-! findSlots of the reference -/
def RWz (σ : px_S) (T : Nat) (tO tn : Nat → Nat) (tb : Nat → Nat → Nat) (dr : Nat → Bool) (xs : px_NL) (on : Bool) (R : Nat → Bool) : Prop := RWd σ T tO tn tb dr xs ∧ RSt σ on R ∧ gI σ 14 = nI T
theorem RWz_FR {σ σ' : px_S} {I J A B : List Nat} {T : Nat} {tO tn : Nat → Nat} {tb : Nat → Nat → Nat} {dr : Nat → Bool} {xs : px_NL} {on : Bool} {R : Nat → Bool} (h : RWz σ T tO tn tb dr xs on R) (f : FR I J A B σ σ') (hI : 20 ∉ I ∧ 14 ∉ I ∧ 68 ∉ I) (hA : ∀ k, k ∈ [6, 9, 17, 21, 22, 23, 24, 25, 26, 27, 28, 65, 66, 73] → k ∉ A) (hB : 30 ∉ B) : RWz σ' T tO tn tb dr xs on R :=
  ⟨RWd_FR h.1 f hI.1 (fun k hk => hA k (by revert k; decide)) hB, RSt_FR h.2.1 f hI.2.2 (hA 66 (by decide)), (f.1 14 hI.2.1).trans h.2.2⟩
def zOf (t k how : Nat) : Nat := 2 * (64 * t + k) + (if how = 22 then 1 else 0)
theorem zOf_2 {t k how : Nat} : zOf t k how / 2 = 64 * t + k := by unfold zOf; split <;> omega
theorem zOf_1 {t k how : Nat} : decide (zOf t k how % 2 = 1) = decide (how = 22) := by
  unfold zOf
  by_cases c : how = 22
  · rw [if_pos c]; exact decide_eq_decide.mpr ⟨fun _ => c, fun _ => by omega⟩
  · rw [if_neg c]; exact decide_eq_decide.mpr ⟨fun q => by omega, fun q => absurd q c⟩
def isSl (x : Nat) : Bool := decide (x = 9 ∨ x = 22 ∨ x = 41 ∨ x = 42)
def fsJ (tb : Nat → Nat → Nat) (dr : Nat → Bool) (xs : px_NL) (t i j : Nat) (sl : List Nat) : List Nat := if isSl (sH (tb t) i j) = true ∧ skY tb dr xs t i j = 0 then sl1 tb xs (zOf t (sY (tb t) i j) (sH (tb t) i j)) sl else sl
def fsI (tb : Nat → Nat → Nat) (dr : Nat → Bool) (xs : px_NL) (sy : Nat → Nat → Bool) (t i : Nat) (sl : List Nat) : List Nat := if isS (tb t) i = true ∧ sy t (oI (tb t) i) = true then itr (fsJ tb dr xs t i) 0 (sN (tb t) i) sl else sl
def fsT (tb : Nat → Nat → Nat) (dr : Nat → Bool) (xs : px_NL) (sy : Nat → Nat → Bool) (t : Nat) (sl : List Nat) : List Nat := itr (fsI tb dr xs sy t) 1 (oS (tb t) - 1) sl
def slL (T : Nat) (tb : Nat → Nat → Nat) (dr : Nat → Bool) (xs : px_NL) (sy : Nat → Nat → Bool) : List Nat := itr (fsT tb dr xs sy) 0 T []
section MFS
variable {F m T t i : Nat} {h : px_H} {dr : Nat → Bool} {tb : Nat → Nat → Nat} {tO tn : Nat → Nat} {xs : px_NL} {on : Bool} {R : Nat → Bool} {k2 : Nat → Int32 → px_H → Option (Unit × px_H)} {k18 : Nat → Int32 → Int32 → Int32 → px_H → Option (Unit × px_H)}
theorem q_fS_57 (hm : m ≤ h.length) (hF : 65536 < F) (hN : SLN T tb) (hW : WP T tb dr xs) (ht : t < T) (h1 : 1 ≤ i) (hi : i < oS (tb t)) (hs : isS (tb t) i = true) : ∀ (c j g : Nat) (σ : px_S) (sl : List Nat), j + c = sN (tb t) i → c < g → RWz σ T tO tn tb dr xs on R → RSl tb xs σ sl → SLI T tb sl → ∃ σ', f_M_findSlots_57 F k2 k18 g m (nI t) (nI (tO t)) (nI i) (nI j) (mh m h σ) = k18 m (nI t) (nI (tO t)) (nI (i + 1)) (mh m h σ') ∧ RSl tb xs σ' (itr (fsJ tb dr xs t i) j c sl) ∧ SLI T tb (itr (fsJ tb dr xs t i) j c sl) ∧ FR [74] [] slA [] σ σ' := by
  intro c
  induction c with
  | zero =>
    intro j g σ sl hj hg hR hS hI
    obtain ⟨g, rfl⟩ : ∃ x, g = x + 1 := ⟨g - 1, by omega⟩
    have hb := hR.1.1 t ht
    have hz := (eSit_0 hb.2.2.2.1 h1 hi hs).2.2.2.1
    have hn := hb.2.2.1
    have hsz : sN (tb t) i < 2 ^ 30 := by unfold sN; omega
    unfold f_M_findSlots_57 f_M_findSlots_175
    rw [e_o hm, bs, O_sN hm (by omega) hb h1 hi hs, xb_mk, if_pos (nI_le (by omega) (by omega)), nI_add]
    exact ⟨σ, rfl, hS, hI, FR_refl σ⟩
  | succ c ih =>
    intro j g σ sl hj hg hR hS hI
    obtain ⟨g, rfl⟩ : ∃ x, g = x + 1 := ⟨g - 1, by omega⟩
    have hb := hR.1.1 t ht
    have he := eSit_0 hb.2.2.2.1 h1 hi hs
    have hz := he.2.2.2.1
    have hn := hb.2.2.1
    have hsz : sN (tb t) i < 2 ^ 30 := by unfold sN; omega
    have hjN : j < sN (tb t) i := by omega
    have hp := OB_sP hb h1 hi hs hjN
    have hok := sOK_0w (he.2.2.2.2.2 j hjN)
    have hM := w2_M (OB_w hb)
    have hsH : sH (tb t) i j < 2 ^ 32 := le_lt (OB_lt hb) _ 4
    have step : ∀ σ1 s1, FR [74] [] slA [] σ σ1 → RSl tb xs σ1 s1 → SLI T tb s1 → fsJ tb dr xs t i j sl = s1 → ∃ σ', f_M_findSlots_57 F k2 k18 g m (nI t) (nI (tO t)) (nI i) (nI (j + 1)) (mh m h σ1) = k18 m (nI t) (nI (tO t)) (nI (i + 1)) (mh m h σ') ∧ RSl tb xs σ' (itr (fsJ tb dr xs t i) j (c + 1) sl) ∧ SLI T tb (itr (fsJ tb dr xs t i) j (c + 1) sl) ∧ FR [74] [] slA [] σ σ' := by
      intro σ1 s1 a1 a2 a3 a4
      obtain ⟨σ', j1, j2, j3, j4⟩ := ih (j + 1) g σ1 s1 (by omega) (by omega) (RWz_FR hR a1 (by decide) (by decide) (by decide)) a2 a3
      rw [itr_s, a4]
      exact ⟨σ', j1, j2, j3, FR_trans a1 j4⟩
    unfold f_M_findSlots_57 f_M_findSlots_169
    rw [e_o hm, bs, O_sN hm (by omega) hb h1 hi hs, xb_mk, if_neg (nI_ge (by omega) (by omega)), e_o hm, bs, O_site hm (by omega) hb hi, xb_mk, e_o hm, bs, nI_add, O_sH hm (by omega) hb hp, xb_mk, q_isSlotted (by omega), xb_mk, nI_add]
    have eis : isSl (sH (tb t) i j) = decide (sH (tb t) i j = 9 ∨ sH (tb t) i j = 22 ∨ sH (tb t) i j = 41 ∨ sH (tb t) i j = 42) := rfl
    rw [← eis]
    cases ei : isSl (sH (tb t) i j) with
    | false =>
      rw [if_pos (show bI false = 0 from rfl)]
      exact step σ sl (FR_refl σ) hS hI (by unfold fsJ; rw [if_neg (fun q => by rw [ei] at q; exact nomatch q.1)])
    | true =>
      rw [if_neg (show ¬ bI true = 0 by decide), e_o hm, bs, q_isShort hm (by omega) hW hR.1 ht h1 hi hs hjN, xb_mk]
      by_cases c2 : skY tb dr xs t i j = 0
      · rw [decide_eq_false (by omega), if_pos (show bI false = 0 from rfl), e_o hm, bs, O_site hm (by omega) hb hi, xb_mk, e_o hm, bs, nI_add, O_sY hm (by omega) hb hp, xb_mk, lN_i]
        have hst : fsJ tb dr xs t i j sl = sl1 tb xs (zOf t (sY (tb t) i j) (sH (tb t) i j)) sl := by unfold fsJ; rw [if_pos ⟨ei, c2⟩]
        have ez1 : zOf t (sY (tb t) i j) (sH (tb t) i j) / 2 / 64 = t := by rw [zOf_2]; omega
        have ez2 : zOf t (sY (tb t) i j) (sH (tb t) i j) / 2 % 64 = sY (tb t) i j := by rw [zOf_2]; omega
        have ez3 := zOf_1 (t := t) (k := sY (tb t) i j) (how := sH (tb t) i j)
        have hzz : zOf t (sY (tb t) i j) (sH (tb t) i j) / 2 / 64 < T ∧ zOf t (sY (tb t) i j) (sH (tb t) i j) / 2 % 64 < oM (tb (zOf t (sY (tb t) i j) (sH (tb t) i j) / 2 / 64)) := by rw [ez1, ez2]; exact ⟨ht, hok.2.1⟩
        obtain ⟨σ1, a1, a2, a3, a4, a5⟩ := q_slotOf (F := F) (h := h) (z := zOf t (sY (tb t) i j) (sH (tb t) i j)) hm hF hN hW hR.1 hzz hS hI
        rw [ez1, ez2, ez3] at a1
        have hI1 := SLI_1 (xs := xs) hI hzz
        have hl := hN sl hI
        have e141 : ∃ σ2, f_M_findSlots_141 F k2 k18 (f_M_findSlots_57 F k2 k18 g) m (nI t) (nI (tO t)) (nI i) (nI j) m (nI t) (nI (sY (tb t) i j)) (bI (decide (sH (tb t) i j = 22))) (mh m h σ) = f_M_findSlots_57 F k2 k18 g m (nI t) (nI (tO t)) (nI i) (nI (j + 1)) (mh m h σ2) ∧ RSl tb xs σ2 (sl1 tb xs (zOf t (sY (tb t) i j) (sH (tb t) i j)) sl) ∧ FR [74] [] slA [] σ σ2 := by
          unfold f_M_findSlots_141 f_M_findSlots_165 f_M_findSlots_169 sl1
          rw [e_o hm, bs, a1, xb_mk, Mg74 hm, bs, bs, a2.1, nI_add j 1]
          generalize zOf t (sY (tb t) i j) (sH (tb t) i j) = z at *
          cases e : ixB (skE tb xs z) 0 sl with
          | some p =>
            have hp := ixB_lt e
            rw [if_neg (show ¬ nI ((some p).getD sl.length) = nI sl.length from fun q => by have := (nI_eq (show p < 2 ^ 31 by omega) (by omega)).mp q; omega), nI_add sl.length 0, Mp74 hm, bs, if_pos (show (some p).isSome = true from rfl)]
            exact ⟨sI σ1 74 (nI (sl.length + 0)), rfl, ⟨by rw [gI_sI, if_pos rfl]; rfl, fun p z hz => a2.2 p z hz⟩, FR_trans (FR_mono a5 (by decide) (by decide) (by decide) (by decide)) (FR_mono (FR_I σ1 74 _) (by decide) (by decide) (by decide) (by decide))⟩
          | none =>
            rw [if_pos (show nI ((none : Option Nat).getD sl.length) = nI sl.length from rfl), nI_add sl.length 1, Mp74 hm, bs, if_neg (by decide)]
            refine ⟨sI σ1 74 (nI (sl.length + 1)), rfl, ⟨by rw [gI_sI, if_pos rfl, List.length_append]; rfl, fun p y hy => ?_⟩, FR_trans (FR_mono a5 (by decide) (by decide) (by decide) (by decide)) (FR_mono (FR_I σ1 74 _) (by decide) (by decide) (by decide) (by decide))⟩
            by_cases cp : p < sl.length
            · rw [List.getElem?_append_left cp] at hy
              exact a2.2 p y hy
            · have hl2 := (List.getElem?_eq_some_iff.mp hy).1
              rw [List.length_append] at hl2
              have hl2 : p < sl.length + 1 := hl2
              have ep : p = sl.length := by omega
              rw [ep, List.getElem?_append_right (Nat.le_refl _), Nat.sub_self] at hy
              have hy : z = y := Option.some.inj hy
              rw [ep, ← hy]
              exact a3 e
        obtain ⟨σ2, b1, b2, b3⟩ := e141
        have eif : (if lN (sH (tb t) i j) = (22 : Int64) then f_M_findSlots_141 F k2 k18 (f_M_findSlots_57 F k2 k18 g) m (nI t) (nI (tO t)) (nI i) (nI j) m (nI t) (nI (sY (tb t) i j)) (nI 1) (mh m h σ) else f_M_findSlots_141 F k2 k18 (f_M_findSlots_57 F k2 k18 g) m (nI t) (nI (tO t)) (nI i) (nI j) m (nI t) (nI (sY (tb t) i j)) (nI 0) (mh m h σ)) = f_M_findSlots_141 F k2 k18 (f_M_findSlots_57 F k2 k18 g) m (nI t) (nI (tO t)) (nI i) (nI j) m (nI t) (nI (sY (tb t) i j)) (bI (decide (sH (tb t) i j = 22))) (mh m h σ) := by
          by_cases c22 : sH (tb t) i j = 22
          · rw [if_pos (show lN (sH (tb t) i j) = (22 : Int64) by rw [c22]; rfl), decide_eq_true c22]; rfl
          · rw [if_neg (show ¬ lN (sH (tb t) i j) = (22 : Int64) from fun q => c22 ((lEQ (b := 22) (by omega) (by decide)).mp q)), decide_eq_false c22]; rfl
        rw [eif, b1]
        exact step σ2 _ b3 b2 hI1.1 hst
      · rw [decide_eq_true (by omega), if_neg (show ¬ bI true = 0 by decide)]
        exact step σ sl (FR_refl σ) hS hI (by unfold fsJ; rw [if_neg (fun q => c2 q.2)])
theorem q_fS_18 (hm : m ≤ h.length) (hF : 65536 < F) (hN : SLN T tb) (hW : WP T tb dr xs) (ht : t < T) : ∀ (c i g : Nat) (σ : px_S) (sl : List Nat), 1 ≤ i → i + c = oS (tb t) → c < g → RWz σ T tO tn tb dr xs on R → RSl tb xs σ sl → SLI T tb sl → ∃ σ', f_M_findSlots_18 F k2 g m (nI t) (nI (tO t)) (nI i) (mh m h σ) = k2 m (nI (t + 1)) (mh m h σ') ∧ RSl tb xs σ' (itr (fsI tb dr xs (sta tb dr on R) t) i c sl) ∧ SLI T tb (itr (fsI tb dr xs (sta tb dr on R) t) i c sl) ∧ FR [74] [] slA [] σ σ' := by
  intro c
  induction c with
  | zero =>
    intro i g σ sl h1 hi hg hR hS hI
    obtain ⟨g, rfl⟩ : ∃ x, g = x + 1 := ⟨g - 1, by omega⟩
    have hb := hR.1.1 t ht
    have hs24 := (OB_w hb).1.2.1.2
    unfold f_M_findSlots_18 f_M_findSlots_181
    rw [e_o hm, bs, O_sec hm (by omega) hb, xb_mk, if_pos (nI_le (by omega) (by omega)), nI_add]
    exact ⟨σ, rfl, hS, hI, FR_refl σ⟩
  | succ c ih =>
    intro i g σ sl h1 hi hg hR hS hI
    obtain ⟨g, rfl⟩ : ∃ x, g = x + 1 := ⟨g - 1, by omega⟩
    have hb := hR.1.1 t ht
    have hs24 := (OB_w hb).1.2.1.2
    have hiS : i < oS (tb t) := by omega
    have step : ∀ σ1 s1, FR [74] [] slA [] σ σ1 → RSl tb xs σ1 s1 → SLI T tb s1 → fsI tb dr xs (sta tb dr on R) t i sl = s1 → ∃ σ', f_M_findSlots_18 F k2 g m (nI t) (nI (tO t)) (nI (i + 1)) (mh m h σ1) = k2 m (nI (t + 1)) (mh m h σ') ∧ RSl tb xs σ' (itr (fsI tb dr xs (sta tb dr on R) t) i (c + 1) sl) ∧ SLI T tb (itr (fsI tb dr xs (sta tb dr on R) t) i (c + 1) sl) ∧ FR [74] [] slA [] σ σ' := by
      intro σ1 s1 a1 a2 a3 a4
      obtain ⟨σ', j1, j2, j3, j4⟩ := ih (i + 1) g σ1 s1 (by omega) (by omega) (by omega) (RWz_FR hR a1 (by decide) (by decide) (by decide)) a2 a3
      rw [itr_s, a4]
      exact ⟨σ', j1, j2, j3, FR_trans a1 j4⟩
    unfold f_M_findSlots_18 f_M_findSlots_175
    rw [e_o hm, bs, O_sec hm (by omega) hb, xb_mk, if_neg (nI_ge (by omega) (by omega)), e_o hm, bs, O_isS hm (by omega) hb hiS, xb_mk, nI_add]
    cases es : isS (tb t) i with
    | false =>
      rw [if_pos (show bI false = 0 from rfl)]
      exact step σ sl (FR_refl σ) hS hI (by unfold fsI; rw [if_neg (fun q => by rw [es] at q; exact nomatch q.1)])
    | true =>
      have he := eSit_0 hb.2.2.2.1 h1 hiS es
      rw [if_neg (show ¬ bI true = 0 by decide), e_o hm, bs, O_info hm (by omega) hb hiS, xb_mk, lN_i, e_o hm, bs, q_stays hm (by omega) hb hR.1.2.1 hR.2.1 he.1, xb_mk]
      cases er : sta tb dr on R t (oI (tb t) i) with
      | false =>
        rw [if_pos (show bI false = 0 from rfl)]
        exact step σ sl (FR_refl σ) hS hI (by unfold fsI; rw [if_neg (fun q => by rw [er] at q; exact nomatch q.2)])
      | true =>
        rw [if_neg (show ¬ bI true = 0 by decide)]
        have hz := he.2.2.2.1
        have hn := hb.2.2.1
        have hsz : sN (tb t) i < 65536 := by unfold sN; omega
        obtain ⟨σ1, b1, b2, b3, b4⟩ := q_fS_57 (F := F) (k2 := k2) (k18 := f_M_findSlots_18 F k2 g) (σ := σ) (sl := sl) hm hF hN hW ht h1 hiS es (sN (tb t) i) 0 F (by omega) (by omega) hR hS hI
        rw [b1]
        exact step σ1 _ b4 b2 b3 (by unfold fsI; rw [if_pos ⟨es, er⟩])
theorem q_fS_2 (hm : m ≤ h.length) (hF : 65536 < F) (hN : SLN T tb) (hW : WP T tb dr xs) : ∀ (c t g : Nat) (σ : px_S) (sl : List Nat), t + c = T → c < g → RWz σ T tO tn tb dr xs on R → RSl tb xs σ sl → SLI T tb sl → ∃ σ', f_M_findSlots_2 F g m (nI t) (mh m h σ) = some ((), mh m h σ') ∧ RSl tb xs σ' (itr (fsT tb dr xs (sta tb dr on R)) t c sl) ∧ SLI T tb (itr (fsT tb dr xs (sta tb dr on R)) t c sl) ∧ FR [74] [] slA [] σ σ' := by
  have hT := hW.1
  intro c
  induction c with
  | zero =>
    intro t g σ sl ht hg hR hS hI
    obtain ⟨g, rfl⟩ : ∃ x, g = x + 1 := ⟨g - 1, by omega⟩
    unfold f_M_findSlots_2 f_M_findSlots_187
    rw [Mg14 hm, bs, hR.2.2, if_pos (nI_le (by omega) (by omega))]
    exact ⟨σ, rfl, hS, hI, FR_refl σ⟩
  | succ c ih =>
    intro t g σ sl ht hg hR hS hI
    obtain ⟨g, rfl⟩ : ∃ x, g = x + 1 := ⟨g - 1, by omega⟩
    have hb := hR.1.1 t (by omega)
    have hs24 := (OB_w hb).1.2.1
    obtain ⟨σ1, a1, a2, a3, a4⟩ := q_fS_18 (F := F) (k2 := f_M_findSlots_2 F g) (t := t) hm hF hN hW (by omega) (oS (tb t) - 1) 1 F σ sl (by omega) (by omega) (by omega) hR hS hI
    unfold f_M_findSlots_2
    rw [Mg14 hm, bs, hR.2.2, if_neg (nI_ge (by omega) (by omega)), e_o hm, bs, O_obj hm hb, xb_mk, a1, itr_s]
    obtain ⟨σ2, b1, b2, b3, b4⟩ := ih (t + 1) g σ1 _ (by omega) (by omega) (RWz_FR hR a4 (by decide) (by decide) (by decide)) a2 a3
    exact ⟨σ2, b1, b2, b3, FR_trans a4 b4⟩
theorem q_findSlots {σ : px_S} (hm : m ≤ h.length) (hF : 65536 < F) (hN : SLN T tb) (hW : WP T tb dr xs) (hR : RWz σ T tO tn tb dr xs on R) (h74 : gI σ 74 = nI 0) : ∃ σ', f_M_findSlots F m (mh m h σ) = some ((), mh m h σ') ∧ RSl tb xs σ' (slL T tb dr xs (sta tb dr on R)) ∧ SLI T tb (slL T tb dr xs (sta tb dr on R)) ∧ FR [74] [] slA [] σ σ' := by
  have hT := hW.1
  exact q_fS_2 hm hF hN hW T 0 F σ [] (by omega) (by omega) hR ⟨h74, fun p z hz => by rw [List.getElem?_nil] at hz; cases hz⟩ ⟨List.nodup_nil, fun z hz => absurd hz List.not_mem_nil⟩
end MFS
