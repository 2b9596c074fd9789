/-! write of the reference -/
section MWR
variable {F m T : Nat} {h : px_H} {σ : px_S} {B : Nat → Nat} {tb : Nat → Nat → Nat} {tO tn tq : Nat → Nat} {dr : Nat → Bool} {xs : px_NL} {ll : List Nat} {on : Bool} {R : Nat → Bool} {NA : Nat → Int64} {ad fpS bgS : Nat → Nat} {sp tp pp : Nat} {th : Nat → Bool}
theorem put_k {K : Unit → px_H → Option (Unit × px_H)} {a n : Nat} {v : Int64} (hm : m ≤ h.length) (hF : 65536 < F) (h3 : ∀ k, isB (gA σ 3 k)) (ha : a + n ≤ 65536) (hk : ∀ σ1, WRo σ σ1 → ∃ σ', K () (mh m h σ1) = some ((), mh m h σ') ∧ WRo σ1 σ') : ∃ σ', ((xo (mh m h σ) 12 m).bind fun _ => xb (f_M_put F m (nI a) v (nI n) (mh m h σ)) K) = some ((), mh m h σ') ∧ WRo σ σ' := by
  obtain ⟨σ1, p1, w1⟩ := q_put (F := F) (h := h) (v := v) hm hF ha h3
  obtain ⟨σ2, r1, w2⟩ := hk σ1 w1
  exact ⟨σ2, by rw [e_o hm, bs, p1, xb_mk, r1], WRo_tr w1 w2⟩
theorem put_x {K : Unit → px_H → Option (Unit × px_H)} {a n : Nat} {v : Int64} (hm : m ≤ h.length) (hF : 65536 < F) (h3 : ∀ k, isB (gA σ 3 k)) (ha : a + n ≤ 65536) (hk : ∀ σ1, WRo σ σ1 → ∃ σ', K () (mh m h σ1) = some ((), mh m h σ') ∧ WRo σ1 σ') : ∃ σ', xb (f_M_put F m (nI a) v (nI n) (mh m h σ)) K = some ((), mh m h σ') ∧ WRo σ σ' := by
  obtain ⟨σ1, p1, w1⟩ := q_put (F := F) (h := h) (v := v) hm hF ha h3
  obtain ⟨σ2, r1, w2⟩ := hk σ1 w1
  exact ⟨σ2, by rw [p1, xb_mk, r1], WRo_tr w1 w2⟩
/-- what the writing reads -/
def RFw (σ : px_S) (T : Nat) (tO tn tq : Nat → Nat) (tb : Nat → Nat → Nat) (dr : Nat → Bool) (xs : px_NL) (on : Bool) (R : Nat → Bool) (ll : List Nat) (B : Nat → Nat) (NA : Nat → Int64) (ad fpS bgS : Nat → Nat) (sp tp pp : Nat) (th : Nat → Bool) : Prop := RFo σ T tO tn tq tb dr xs on R ll B NA ad fpS bgS sp tp pp ∧ (∀ j, j < 3 → gA σ 59 j = bI (th j)) ∧ (∃ sg, sg ≤ 3 ∧ gI σ 15 = nI sg) ∧ (∃ thr, gI σ 82 = bI thr) ∧ RAd σ ll (fun _ => True) ad ∧ RC σ
theorem RFw_W {σ' : px_S} (hf : RFw σ T tO tn tq tb dr xs on R ll B NA ad fpS bgS sp tp pp th) (w : WRo σ σ') : RFw σ' T tO tn tq tb dr xs on R ll B NA ad fpS bgS sp tp pp th := by
  obtain ⟨f1, f2, ⟨sg, f3, f4⟩, ⟨thr, f5⟩, f6, f7⟩ := hf
  exact ⟨RFo_W f1 w, fun j hj => by rw [w.1.2.2.1 59 (by decide)]; exact f2 j hj, ⟨sg, f3, (w.1.1 15 (by decide)).trans f4⟩, ⟨thr, (w.1.1 82 (by decide)).trans f5⟩, RAd_FR f6 w.1 (by decide), RC_FR f7 w.1 (by decide) (by decide)⟩
/-- the room that the file has -/
def hRm (T : Nat) (tO : Nat → Nat) (tb : Nat → Nat → Nat) (dr : Nat → Bool) (xs : px_NL) (sy : Nat → Nat → Bool) (ll : List Nat) (B : Nat → Nat) (ad fpS bgS : Nat → Nat) (sp pp : Nat) : Prop := hLo tb ll ad fpS bgS ∧ (∀ x, ad x ≤ 2 ^ 39) ∧ (∀ s, fpS s ≤ 2 ^ 39) ∧ (0 < psz B (pf0 B tO tb ll) → bgS 1 ≤ pp ∧ fpS 1 + (pp - bgS 1) + psz B (pf0 B tO tb ll) ≤ 65536) ∧ (0 < (slL T tb dr xs sy).length → bgS 2 ≤ sp ∧ fpS 2 + (sp - bgS 2) + 8 * (slL T tb dr xs sy).length ≤ 65536) ∧ ∀ x, x ∈ ll → zS tb x ≤ 16384
theorem q_w_633 (hm : m ≤ h.length) (hF : 65540 < F) (hN : FNo T tO tb dr xs (sta tb dr on R) ll B (slL T tb dr xs (sta tb dr on R))) (hRr : hRm T tO tb dr xs (sta tb dr on R) ll B ad fpS bgS sp pp) : ∀ (c k g : Nat) (σ : px_S), k + c = (slL T tb dr xs (sta tb dr on R)).length → c < g → RFw σ T tO tn tq tb dr xs on R ll B NA ad fpS bgS sp tp pp th → ∃ σ', f_M_write_633 F g m (nI k) (mh m h σ) = some ((), mh m h σ') ∧ WRo σ σ' := by
  have hll := hN.2.2.2.2.2.1 _ hN.2.2.2.2.2.2
  have hT := hN.1.1
  intro c
  induction c with
  | zero =>
    intro k g σ hk hg hf
    obtain ⟨g, rfl⟩ : ∃ x, g = x + 1 := ⟨g - 1, by omega⟩
    obtain ⟨σ1, a1, a2⟩ := q_sites1 (F := F) (h := h) hm hF hN hRr.1 hRr.2.1 hRr.2.2.1 T 0 F σ (by omega) (by omega) hf.1
    unfold f_M_write_633 f_M_write_734 f_M_sites
    rw [Mg74 hm, bs, hf.1.1.2.2.1.1, if_pos (nI_le (by omega) (by omega)), e_o hm, bs, a1, xb_mk]
    exact ⟨σ1, rfl, a2⟩
  | succ c ih =>
    intro k g σ hk hg hf
    obtain ⟨g, rfl⟩ : ∃ x, g = x + 1 := ⟨g - 1, by omega⟩
    have hkl : k < (slL T tb dr xs (sta tb dr on R)).length := by omega
    have hz := List.getElem?_eq_getElem hkl
    have hzI := hN.2.2.2.2.2.2.2 _ (List.getElem_mem hkl)
    obtain ⟨r78, r75, r76, r77⟩ := hf.1.1.2.2.1.2 k _ hz
    generalize (slL T tb dr xs (sta tb dr on R))[k] = z at *
    obtain ⟨s60, s61⟩ := hf.1.2.1 2 (by decide)
    obtain ⟨b1, b2⟩ := hRr.2.2.2.2.1 (by omega)
    have hfp2 := hRr.2.2.1 2
    have fin : ∀ v w, ∃ σ', f_M_write_722 F (f_M_write_633 F g) m (nI k) m (nI (fpS 2 + (sp - bgS 2) + 8 * k)) v w (mh m h σ) = some ((), mh m h σ') ∧ WRo σ σ' := fun v w => by
      unfold f_M_write_722
      refine put_k hm (by omega) hf.1.2.2.2 (by omega) (fun σ1 w1 => ?_)
      rw [nI_add]
      exact ih (k + 1) g σ1 (by omega) (by omega) (RFw_W hf w1)
    have e705 : ∀ v, ∃ σ', f_M_write_705 F (f_M_write_633 F g) m (nI k) m (nI (fpS 2 + (sp - bgS 2) + 8 * k)) v (mh m h σ) = some ((), mh m h σ') ∧ WRo σ σ' := fun v => by
      unfold f_M_write_705
      rw [Mr78 hm, bs, Ma78 hm (by omega), bs, r78]
      cases decide (z % 2 = 1) with
      | false => rw [if_pos (show bI false = 0 from rfl)]; exact fin v _
      | true => rw [if_neg (show ¬ bI true = 0 by decide), Mg87 hm, bs]; exact fin v _
    have eat : (lN (fpS 2) + lN sp - lN (bgS 2)).toInt32 + nI 8 * nI k = nI (fpS 2 + (sp - bgS 2) + 8 * k) := by
      rw [lN_add, lN_sub (by omega), lN_i, pk_mul, nI_add]
      congr 1
      omega
    unfold f_M_write_633
    rw [Mg74 hm, bs, hf.1.1.2.2.1.1, if_neg (nI_ge (by omega) (by omega)), Mr60 hm, bs, Ma60 hm (by decide), bs, s60, Mg79 hm, bs, hf.1.1.2.2.2.2.2.1, Mr61 hm, bs, Ma61 hm (by decide), bs, s61, eat, Mr75 hm, bs, Ma75 hm (by omega), bs, r75]
    cases en : nmZ tb xs z with
    | none =>
      rw [if_pos (show tdA none < 0 from m1_neg), Mr76 hm, bs, Ma76 hm (by omega), bs, r76, Mr77 hm, bs, Ma77 hm (by omega), bs, r77, e_o hm, bs, q_symbolAddress hm hF hf.1.1 hN hzI.1 hzI.2, xb_mk]
      exact e705 _
    | some n =>
      have hn31 := nmZ_lt (σ := σ) hN.1 ⟨hf.1.1.1.1.1, hf.1.1.2.1.1, hf.1.1.2.1.2.2⟩ z n en
      have hnl : n < 4096 := by
        have hxl : xs.length ≤ 4096 := by have := hf.1.1.2.1.2.2.1.2.1; rw [List.length_map] at this; exact this
        unfold nmZ at en
        split at en
        · cases en
        · rename_i cz
          have hk0 : z / 2 % 64 ≠ 0 := fun q => cz (Or.inl q)
          obtain ⟨x, x1, _, _⟩ := plc_ix (hN.1.2.2.2.1 (z / 2 / 64) (z / 2 % 64) hzI.1 (by omega) hzI.2 (fun q => cz (Or.inr q)))
          have := (List.getElem?_eq_some_iff.mp x1).1
          have := Option.some.inj en
          omega
      rw [if_neg (show ¬ tdA (some n) < 0 from nI_pos hn31), Mr29 hm, bs, bs, Ma75 hm (by omega), bs, r75, en, show tdA (some n) = nI n from rfl, Ma29 hm hnl, bs]
      exact e705 _
theorem q_w_576 {K : Nat → Int32 → px_H → Option (Unit × px_H)} {P x to : Nat} (hm : m ≤ h.length) (hF : 65540 < F) (hP : P < 1536) (hx : ll[P]? = some x) (hx2 : x / 24 < T ∧ 1 ≤ x % 24 ∧ x % 24 < oS (tb (x / 24))) (hin : oP (tb (x / 24)) (x % 24) + zS tb x ≤ tn (x / 24)) (hz : zS tb x ≤ 16384) (hto : 0 < zS tb x → to + zS tb x ≤ 65536) : ∀ (c k g : Nat) (σ : px_S), k + c = zS tb x → c < g → RFw σ T tO tn tq tb dr xs on R ll B NA ad fpS bgS sp tp pp th → ∃ σ', f_M_write_576 F K g m (nI P) (nI (tO (x / 24))) (nI to) (nI k) (mh m h σ) = K m (nI (P + 1)) (mh m h σ') ∧ WRo σ σ' := by
  intro c
  induction c with
  | zero =>
    intro k g σ hk hg hf
    obtain ⟨g, rfl⟩ : ∃ x, g = x + 1 := ⟨g - 1, by omega⟩
    obtain ⟨r1, r2, r3, r4, r5, r6⟩ := hf.1.1.1.1.2.1.2 P x hx
    unfold f_M_write_576 f_M_write_625
    rw [Mr56 hm, bs, Ma56 hm hP, bs, r6, if_pos (show nI (oZ (tb (x / 24)) (x % 24)) ≤ nI k from nI_le (show zS tb x ≤ k by omega) (by omega)), nI_add]
    exact ⟨σ, rfl, FR_refl σ, hf.1.2.2.2⟩
  | succ c ih =>
    intro k g σ hk hg hf
    obtain ⟨g, rfl⟩ : ∃ x, g = x + 1 := ⟨g - 1, by omega⟩
    obtain ⟨r1, r2, r3, r4, r5, r6⟩ := hf.1.1.1.1.2.1.2 P x hx
    have hb := hf.1.1.1.1.1 _ hx2.1
    have hn := hb.2.2.1
    have hto2 := hto (by omega)
    have w := WRo_set (i := to + k) hf.1.2.2.2 (isB_8 (gA σ 6 (tO (x / 24) + (oP (tb (x / 24)) (x % 24) + k))))
    obtain ⟨σ2, j1, j2⟩ := ih (k + 1) g _ (by omega) (by omega) (RFw_W hf w)
    unfold f_M_write_576
    rw [Mr56 hm, bs, Ma56 hm hP, bs, r6, if_neg (show ¬ nI (oZ (tb (x / 24)) (x % 24)) ≤ nI k from nI_ge (show k < zS tb x by omega) (show zS tb x < 2 ^ 31 by omega)), Mr3 hm, bs, Mr6 hm, bs, Mr54 hm, bs, Ma54 hm hP, bs, r4, e_o hm, bs, O_beg hm (by omega) hb hx2.2.2, xb_mk, lN_i, nI_add, nI_add, Nat.add_assoc, O_byte hm hb (by omega), bs, nI_add, Ms3 hm (by omega), bs, nI_add]
    exact ⟨σ2, j1, WRo_tr w j2⟩
theorem q_w_481 (hm : m ≤ h.length) (hF : 65540 < F) (hN : FNo T tO tb dr xs (sta tb dr on R) ll B (slL T tb dr xs (sta tb dr on R))) (hRr : hRm T tO tb dr xs (sta tb dr on R) ll B ad fpS bgS sp pp) (hkp : ∀ x, x ∈ ll → oK (tb (x / 24)) (x % 24) = true) : ∀ (c P g : Nat) (σ : px_S), P + c = ll.length → c < g → RFw σ T tO tn tq tb dr xs on R ll B NA ad fpS bgS sp tp pp th → ∃ σ', f_M_write_481 F g m (nI P) (mh m h σ) = some ((), mh m h σ') ∧ WRo σ σ' := by
  have hl := hN.2.1
  have hl1 := hl.1
  have hll := hN.2.2.2.2.2.1 _ hN.2.2.2.2.2.2
  intro c
  induction c with
  | zero =>
    intro P g σ hP hg hf
    obtain ⟨g, rfl⟩ : ∃ x, g = x + 1 := ⟨g - 1, by omega⟩
    unfold f_M_write_481 f_M_write_631
    rw [Mg50 hm, bs, hf.1.1.1.1.2.1.1, if_pos (nI_le (by omega) (by omega))]
    exact q_w_633 hm hF hN hRr (slL T tb dr xs (sta tb dr on R)).length 0 F σ (by omega) (by omega) hf
  | succ c ih =>
    intro P g σ hP hg hf
    obtain ⟨g, rfl⟩ : ∃ x, g = x + 1 := ⟨g - 1, by omega⟩
    have hPl : P < ll.length := by omega
    have hx := List.getElem?_eq_getElem hPl
    have hxm := List.getElem_mem hPl
    have hx2 := hl.2 _ hxm
    have hlo := hRr.1 _ hxm
    have hz := hRr.2.2.2.2.2 _ hxm
    have hk := hkp _ hxm
    generalize ll[P] = x at *
    obtain ⟨r1, r2, r3, r4, r5, r6⟩ := hf.1.1.1.1.2.1.2 P x hx
    have hb := hf.1.1.1.1.1 _ hx2.1
    have hG : oG (tb (x / 24)) (x % 24) ≤ 5 := by unfold oG; repeat (first | omega | split)
    have nx : ∀ σ1, WRo σ σ1 → ∃ σ', f_M_write_481 F g m (nI (P + 1)) (mh m h σ1) = some ((), mh m h σ') ∧ WRo σ σ' := fun σ1 w => by
      obtain ⟨σ2, b1, b2⟩ := ih (P + 1) g σ1 (by omega) (by omega) (RFw_W hf w)
      exact ⟨σ2, b1, WRo_tr w b2⟩
    unfold f_M_write_481 f_M_write_625
    rw [Mg50 hm, bs, hf.1.1.1.1.2.1.1, if_neg (nI_ge (by omega) (by omega)), Mr51 hm, bs, Ma51 hm (by omega), bs, r1, e_o hm, bs, O_obj hm hb, xb_mk, Mr55 hm, bs, Ma55 hm (by omega), bs, r5, nI_add]
    by_cases c3 : oG (tb (x / 24)) (x % 24) = 3
    · rw [if_pos (by rw [c3])]
      exact nx σ ⟨FR_refl σ, hf.1.2.2.2⟩
    · rw [if_neg (fun q => c3 ((nI_eq (by omega) (by decide)).mp q)), bs, Ma55 hm (by omega), bs, r5]
      by_cases c5 : oG (tb (x / 24)) (x % 24) = 5
      · rw [if_pos (by rw [c5])]
        exact nx σ ⟨FR_refl σ, hf.1.2.2.2⟩
      · rw [if_neg (fun q => c5 ((nI_eq (by omega) (by decide)).mp q)), Mr54 hm, bs, Ma54 hm (by omega), bs, r4, e_o hm, bs, q_isStrings hm (by omega) hb hx2.2.2, xb_mk]
        cases es : oStr (tb (x / 24)) (x % 24) with
        | true =>
          rw [if_neg (show ¬ bI true = 0 by decide)]
          exact nx σ ⟨FR_refl σ, hf.1.2.2.2⟩
        | false =>
          have hsg := sgO_2 (g := oG (tb (x / 24)) (x % 24))
          have hin : oP (tb (x / 24)) (x % 24) + zS tb x ≤ tn (x / 24) := by
            have h8 : oT (tb (x / 24)) (x % 24) ≠ 8 := fun e => by
              have hg8 : oG (tb (x / 24)) (x % 24) = 5 ∨ oG (tb (x / 24)) (x % 24) = 3 := by
                unfold oG
                rw [if_pos e, if_pos e]
                split
                · exact Or.inl rfl
                · exact Or.inr rfl
              exact hg8.elim c5 c3
            have h0 : oT (tb (x / 24)) (x % 24) ≠ 0 := fun e => by
              unfold oK at hk
              have := of_decide_eq_true hk
              omega
            exact (OB_w hb).1.2.2.2.1 _ hx2.2.2 h0 h8
          generalize hsv : sgO (oG (tb (x / 24)) (x % 24)) = s at *
          obtain ⟨s60, s61⟩ := hf.1.2.1 s (by omega)
          have a57 := (hf.2.2.2.2.1 P x hx trivial).1
          rw [if_pos (show bI false = 0 from rfl), Mr55 hm, bs, Ma55 hm (by omega), bs, r5, q_segmentOf (by omega), xb_mk, hsv, Mr60 hm, bs, Ma60 hm (by omega), bs, s60, Mr57 hm, bs, Ma57 hm (by omega), bs, a57, Mr61 hm, bs, Ma61 hm (by omega), bs, s61]
          by_cases cz : 0 < zS tb x
          · obtain ⟨l1, l2⟩ := hlo es c3 c5 cz
            rw [show (lN (fpS s) + lN (ad x) - lN (bgS s)).toInt32 = nI (fpS s + ad x - bgS s) by rw [lN_add, lN_sub (by omega), lN_i]]
            obtain ⟨σ1, d1, d2⟩ := q_w_576 (F := F) (h := h) (K := f_M_write_481 F g) (to := fpS s + ad x - bgS s) hm hF (by omega) hx hx2 hin hz (fun _ => by omega) (zS tb x) 0 F σ (by omega) (by omega) hf
            rw [d1]
            exact nx σ1 d2
          · obtain ⟨F1, hF1⟩ : ∃ y, F = y + 1 := ⟨F - 1, by omega⟩
            rw [show ∀ a b, f_M_write_576 F (f_M_write_481 F g) F m a b = f_M_write_576 F (f_M_write_481 F g) (F1 + 1) m a b from fun a b => by rw [← hF1]]
            unfold f_M_write_576 f_M_write_625
            rw [Mr56 hm, bs, Ma56 hm (by omega), bs, r6, if_pos (show nI (oZ (tb (x / 24)) (x % 24)) ≤ nI 0 by rw [show oZ (tb (x / 24)) (x % 24) = 0 from Nat.eq_zero_of_not_pos cz]; decide), nI_add]
            exact nx σ ⟨FR_refl σ, hf.1.2.2.2⟩
theorem q_w_433 (hm : m ≤ h.length) (hF : 65540 < F) (hN : FNo T tO tb dr xs (sta tb dr on R) ll B (slL T tb dr xs (sta tb dr on R))) (hRr : hRm T tO tb dr xs (sta tb dr on R) ll B ad fpS bgS sp pp) (hkp : ∀ x, x ∈ ll → oK (tb (x / 24)) (x % 24) = true) : ∀ (c k g : Nat) (σ : px_S), k + c = psz B (pf0 B tO tb ll) → c < g → RFw σ T tO tn tq tb dr xs on R ll B NA ad fpS bgS sp tp pp th → ∃ σ', f_M_write_433 F g m (nI k) (mh m h σ) = some ((), mh m h σ') ∧ WRo σ σ' := by
  have hsz := PIn_sz hN.2.2.2.1
  have hl1 := hN.2.1.1
  intro c
  induction c with
  | zero =>
    intro k g σ hk hg hf
    obtain ⟨g, rfl⟩ : ∃ x, g = x + 1 := ⟨g - 1, by omega⟩
    unfold f_M_write_433 f_M_write_479
    rw [Mg88 hm, bs, hf.1.1.1.2.2.2.1, if_pos (nI_le (by omega) (by omega))]
    exact q_w_481 hm hF hN hRr hkp ll.length 0 F σ (by omega) (by omega) hf
  | succ c ih =>
    intro k g σ hk hg hf
    obtain ⟨g, rfl⟩ : ∃ x, g = x + 1 := ⟨g - 1, by omega⟩
    obtain ⟨b1, b2⟩ := hRr.2.2.2.1 (by omega)
    obtain ⟨s60, s61⟩ := hf.1.2.1 1 (by decide)
    have w := WRo_set (i := fpS 1 + pp - bgS 1 + k) hf.1.2.2.2 (isB_8 (gA σ 91 k))
    obtain ⟨σ2, j1, j2⟩ := ih (k + 1) g _ (by omega) (by omega) (RFw_W hf w)
    unfold f_M_write_433
    rw [Mg88 hm, bs, hf.1.1.1.2.2.2.1, if_neg (nI_ge (by omega) (by omega)), Mr3 hm, bs, Mr60 hm, bs, Ma60 hm (by decide), bs, s60, Mg90 hm, bs, hf.1.1.2.2.2.2.2.2.2.1, Mr61 hm, bs, Ma61 hm (by decide), bs, s61, Mr91 hm, bs, Ma91 hm (by omega), bs, show (lN (fpS 1) + lN pp - lN (bgS 1)).toInt32 + nI k = nI (fpS 1 + pp - bgS 1 + k) by rw [lN_add, lN_sub (by omega), lN_i, nI_add], Ms3 hm (by omega), bs, nI_add]
    exact ⟨σ2, j1, WRo_tr w j2⟩
theorem q_w_306 {at0 : Nat} (hm : m ≤ h.length) (hF : 65540 < F) (hN : FNo T tO tb dr xs (sta tb dr on R) ll B (slL T tb dr xs (sta tb dr on R))) (hRr : hRm T tO tb dr xs (sta tb dr on R) ll B ad fpS bgS sp pp) (hkp : ∀ x, x ∈ ll → oK (tb (x / 24)) (x % 24) = true) (ha : at0 ≤ 300) (hf : RFw σ T tO tn tq tb dr xs on R ll B NA ad fpS bgS sp tp pp th) : ∃ σ', f_M_write_306 F m (nI at0) (mh m h σ) = some ((), mh m h σ') ∧ WRo σ σ' := by
  have hsz := PIn_sz hN.2.2.2.1
  have e431 : ∀ σ1, RFw σ1 T tO tn tq tb dr xs on R ll B NA ad fpS bgS sp tp pp th → ∃ σ', f_M_write_431 F m (mh m h σ1) = some ((), mh m h σ') ∧ WRo σ1 σ' := fun σ1 hf1 => by
    unfold f_M_write_431
    exact q_w_433 hm hF hN hRr hkp (psz B (pf0 B tO tb ll)) 0 F σ1 (by omega) (by omega) hf1
  obtain ⟨thr, h82⟩ := hf.2.2.2.1
  unfold f_M_write_306
  rw [Mg82 hm, bs, h82]
  cases thr with
  | false => rw [if_pos (show bI false = 0 from rfl)]; exact e431 σ hf
  | true =>
    rw [if_neg (show ¬ bI true = 0 by decide)]
    have hF' : 65536 < F := by omega
    refine put_k hm hF' hf.1.2.2.2 (by omega) (fun σ1 w1 => ?_)
    rw [nI_add]
    refine put_k hm hF' w1.2 (by omega) (fun σ2 w2 => ?_)
    rw [Mr60 hm, bs, Ma60 hm (by decide), bs, Mg83 hm, bs, Mr61 hm, bs, Ma61 hm (by decide), bs, nI_add]
    refine put_k hm hF' w2.2 (by omega) (fun σ3 w3 => ?_)
    rw [Mg83 hm, bs, nI_add]
    refine put_k hm hF' w3.2 (by omega) (fun σ4 w4 => ?_)
    rw [Mg83 hm, bs, nI_add]
    refine put_k hm hF' w4.2 (by omega) (fun σ5 w5 => ?_)
    rw [Mg84 hm, bs, nI_add]
    refine put_k hm hF' w5.2 (by omega) (fun σ6 w6 => ?_)
    rw [Mg85 hm, bs, nI_add]
    refine put_k hm hF' w6.2 (by omega) (fun σ7 w7 => ?_)
    rw [Mg86 hm, bs, nI_add]
    refine put_k hm hF' w7.2 (by omega) (fun σ8 w8 => ?_)
    exact e431 σ8 (RFw_W (RFw_W (RFw_W (RFw_W (RFw_W (RFw_W (RFw_W (RFw_W hf w1) w2) w3) w4) w5) w6) w7) w8)
theorem q_w_148 (hm : m ≤ h.length) (hF : 65540 < F) (hN : FNo T tO tb dr xs (sta tb dr on R) ll B (slL T tb dr xs (sta tb dr on R))) (hRr : hRm T tO tb dr xs (sta tb dr on R) ll B ad fpS bgS sp pp) (hkp : ∀ x, x ∈ ll → oK (tb (x / 24)) (x % 24) = true) : ∀ (c s at0 g : Nat) (σ : px_S), s + c = 3 → c < g → at0 ≤ 64 + 56 * s → RFw σ T tO tn tq tb dr xs on R ll B NA ad fpS bgS sp tp pp th → ∃ σ', f_M_write_148 F g m (nI at0) (nI s) (mh m h σ) = some ((), mh m h σ') ∧ WRo σ σ' := by
  have hF' : 65536 < F := by omega
  intro c
  induction c with
  | zero =>
    intro s at0 g σ hs hg ha hf
    obtain ⟨g, rfl⟩ : ∃ x, g = x + 1 := ⟨g - 1, by omega⟩
    unfold f_M_write_148
    rw [if_pos (nI_le (by omega) (by omega))]
    exact q_w_306 hm hF hN hRr hkp (by omega) hf
  | succ c ih =>
    intro s at0 g σ hs hg ha hf
    obtain ⟨g, rfl⟩ : ∃ x, g = x + 1 := ⟨g - 1, by omega⟩
    have e200 : ∀ (v : Int64) (σ1 : px_S), RFw σ1 T tO tn tq tb dr xs on R ll B NA ad fpS bgS sp tp pp th → ∃ σ', f_M_write_200 F (f_M_write_148 F g) m (nI at0) (nI s) m (nI (at0 + 4)) v (mh m h σ1) = some ((), mh m h σ') ∧ WRo σ1 σ' := fun v σ1 hf1 => by
      unfold f_M_write_200 f_M_write_300
      refine put_k hm hF' hf1.1.2.2.2 (by omega) (fun σ2 w2 => ?_)
      rw [Mr60 hm, bs, Ma60 hm (by omega), bs, nI_add]
      refine put_k hm hF' w2.2 (by omega) (fun σ3 w3 => ?_)
      rw [Mr61 hm, bs, Ma61 hm (by omega), bs, nI_add]
      refine put_k hm hF' w3.2 (by omega) (fun σ4 w4 => ?_)
      rw [Mr61 hm, bs, Ma61 hm (by omega), bs, nI_add]
      refine put_k hm hF' w4.2 (by omega) (fun σ5 w5 => ?_)
      rw [Mr62 hm, bs, Ma62 hm (by omega), bs, nI_add]
      refine put_k hm hF' w5.2 (by omega) (fun σ6 w6 => ?_)
      rw [Mr63 hm, bs, Ma63 hm (by omega), bs, nI_add]
      refine put_k hm hF' w6.2 (by omega) (fun σ7 w7 => ?_)
      rw [nI_add]
      refine put_k hm hF' w7.2 (by omega) (fun σ8 w8 => ?_)
      rw [nI_add, nI_add]
      exact ih (s + 1) (at0 + 56) g σ8 (by omega) (by omega) (by omega) (RFw_W (RFw_W (RFw_W (RFw_W (RFw_W (RFw_W (RFw_W hf1 w2) w3) w4) w5) w6) w7) w8)
    unfold f_M_write_148 f_M_write_300
    rw [if_neg (nI_ge (by omega) (by omega)), Mr59 hm, bs, Ma59 hm (by omega), bs, hf.2.1 s (by omega), nI_add s 1]
    cases th s with
    | false =>
      rw [if_pos (show bI false = 0 from rfl)]
      exact ih (s + 1) at0 g σ (by omega) (by omega) (by omega) hf
    | true =>
      rw [if_neg (show ¬ bI true = 0 by decide)]
      refine put_k hm hF' hf.1.2.2.2 (by omega) (fun σ1 w1 => ?_)
      rw [nI_add at0 4]
      have hf1 := RFw_W hf w1
      split
      · exact e200 _ σ1 hf1
      · split
        · exact e200 _ σ1 hf1
        · exact e200 _ σ1 hf1
theorem q_w_32 (hm : m ≤ h.length) (hF : 65540 < F) (hN : FNo T tO tb dr xs (sta tb dr on R) ll B (slL T tb dr xs (sta tb dr on R))) (hRr : hRm T tO tb dr xs (sta tb dr on R) ll B ad fpS bgS sp pp) (hkp : ∀ x, x ∈ ll → oK (tb (x / 24)) (x % 24) = true) (hst : (dfI wST xs).isSome = true) (hf : RFw σ T tO tn tq tb dr xs on R ll B NA ad fpS bgS sp tp pp th) : ∃ σ', f_M_write_32 F m (mh m h σ) = some ((), mh m h σ') ∧ WRo σ σ' := by
  have hF' : 65536 < F := by omega
  obtain ⟨i, hi⟩ := Option.isSome_iff_exists.mp hst
  have hxl : xs.length ≤ 4096 := by have := hf.1.1.2.1.2.2.1.2.1; rw [List.length_map] at this; exact this
  have hi2 : i < 4096 := by
    unfold dfI at hi
    split at hi
    · cases hi
    · rename_i ei
      split at hi
      · cases hi
      · have := idx_lt ei
        rw [List.length_map] at this
        have := Option.some.inj hi
        omega
  unfold f_M_write_32
  refine put_k (a := 0) hm hF' hf.1.2.2.2 (by omega) (fun σ1 w1 => ?_)
  refine put_k hm hF' w1.2 (by omega) (fun σ2 w2 => ?_)
  refine put_k hm hF' w2.2 (by omega) (fun σ3 w3 => ?_)
  refine put_k hm hF' w3.2 (by omega) (fun σ4 w4 => ?_)
  have hf4 := RFw_W (RFw_W (RFw_W (RFw_W hf w1) w2) w3) w4
  rw [Mr29 hm, bs, e_o hm, bs, q_start hm (by omega) hf4.1.1.2.1.2.2 hN.1.2.1 hf4.2.2.2.2.2, xb_mk, hi, show tdA (some i) = nI i from rfl, Ma29 hm hi2, bs]
  refine put_k hm hF' w4.2 (by omega) (fun σ5 w5 => ?_)
  refine put_k hm hF' w5.2 (by omega) (fun σ6 w6 => ?_)
  refine put_k hm hF' w6.2 (by omega) (fun σ7 w7 => ?_)
  refine put_k hm hF' w7.2 (by omega) (fun σ8 w8 => ?_)
  have hf8 := RFw_W (RFw_W (RFw_W (RFw_W hf4 w5) w6) w7) w8
  rw [Mg15 hm, bs, Mg82 hm, bs]
  have e137 : ∀ x y, ∃ σ', f_M_write_137 F m m (nI 56) x y (mh m h σ8) = some ((), mh m h σ') ∧ WRo σ8 σ' := fun x y => by
    unfold f_M_write_137
    refine put_k hm hF' w8.2 (by omega) (fun σ9 w9 => ?_)
    exact q_w_148 hm hF hN hRr hkp 3 0 64 F σ9 (by omega) (by omega) (by omega) (RFw_W hf8 w9)
  split
  · exact e137 _ _
  · exact e137 _ _
theorem q_w_11 {fe : Nat} (hm : m ≤ h.length) (hfe : fe ≤ 65536) : ∀ (c k g : Nat) (σ : px_S), k + c = fe → c < g → gI σ 4 = nI fe → (∀ k, isB (gA σ 3 k)) → ∃ σ', f_M_write_11 F g m (nI k) (mh m h σ) = f_M_write_32 F m (mh m h σ') ∧ WRo σ σ' := by
  intro c
  induction c with
  | zero =>
    intro k g σ hk hg h4 h3
    obtain ⟨g, rfl⟩ : ∃ x, g = x + 1 := ⟨g - 1, by omega⟩
    unfold f_M_write_11
    rw [Mg4 hm, bs, h4, if_pos (nI_le (by omega) (by omega))]
    exact ⟨σ, rfl, FR_refl σ, h3⟩
  | succ c ih =>
    intro k g σ hk hg h4 h3
    obtain ⟨g, rfl⟩ : ∃ x, g = x + 1 := ⟨g - 1, by omega⟩
    have w := WRo_set (σ := σ) (i := k) h3 (isB_8 (nI 0))
    obtain ⟨σ2, j1, j2⟩ := ih (k + 1) g _ (by omega) (by omega) ((w.1.1 4 (by decide)).trans h4) w.2
    unfold f_M_write_11
    rw [Mg4 hm, bs, h4, if_neg (nI_ge (by omega) (by omega)), Mr3 hm, bs, Ms3 hm (by omega), bs, nI_add]
    exact ⟨σ2, j1, WRo_tr w j2⟩
theorem q_write {fe : Nat} (hm : m ≤ h.length) (hF : 65540 < F) (hN : FNo T tO tb dr xs (sta tb dr on R) ll B (slL T tb dr xs (sta tb dr on R))) (hRr : hRm T tO tb dr xs (sta tb dr on R) ll B ad fpS bgS sp pp) (hkp : ∀ x, x ∈ ll → oK (tb (x / 24)) (x % 24) = true) (hst : (dfI wST xs).isSome = true) (hf : RFw σ T tO tn tq tb dr xs on R ll B NA ad fpS bgS sp tp pp th) (hfe : fe ≤ 65536) (h64 : gJ σ 64 = lN fe) : ∃ σ', f_M_write F m (mh m h σ) = some ((), mh m h σ') ∧ gI σ' 4 = nI fe ∧ (∀ k, isB (gA σ' 3 k)) ∧ FR [4] [] [3] [] σ σ' := by
  have f1 := FR_I σ 4 (nI fe)
  have hf1 : RFw (sI σ 4 (nI fe)) T tO tn tq tb dr xs on R ll B NA ad fpS bgS sp tp pp th := by
    obtain ⟨⟨g1, g2, g3, g4⟩, f2, ⟨sg, f3, f4⟩, ⟨thr, f5⟩, f6, f7⟩ := hf
    exact ⟨⟨RFn_FR g1 f1 (by decide) (by decide) (by decide) (by decide), g2, g3, g4⟩, f2, ⟨sg, f3, f4⟩, ⟨thr, f5⟩, RAd_FR f6 f1 (by decide), RC_FR f7 f1 (by decide) (by decide)⟩
  have g4 : gI (sI σ 4 (nI fe)) 4 = nI fe := by rw [gI_sI, if_pos rfl]
  have p4 : xpI (mh m h σ) 12 4 m (nI fe) = some (mh m h (sI σ 4 (nI fe))) := Mp4 hm _
  generalize sI σ 4 (nI fe) = σ1 at *
  obtain ⟨σ2, a1, a2⟩ := q_w_11 (F := F) (h := h) hm hfe fe 0 F σ1 (by omega) (by omega) g4 hf1.1.2.2.2
  obtain ⟨σ3, b1, b2⟩ := q_w_32 (F := F) (h := h) hm hF hN hRr hkp hst (RFw_W hf1 a2)
  refine ⟨σ3, ?_, ?_, b2.2, FR_trans (FR_mono f1 (by decide) (by decide) (by decide) (by decide)) (FR_trans (FR_mono a2.1 (by decide) (by decide) (by decide) (by decide)) (FR_mono b2.1 (by decide) (by decide) (by decide) (by decide)))⟩
  · unfold f_M_write
    rw [Mg64 hm, bs, h64, lN_i, p4, bs, a1, b1]
  · rw [b2.1.1 4 (by decide), a2.1.1 4 (by decide)]; exact g4
end MWR
