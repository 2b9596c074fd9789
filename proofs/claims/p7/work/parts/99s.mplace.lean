/-! placeCommons, placeStrings of the reference -/
def cmOK (xs : px_NL) : Prop := ∀ n, n < xs.length → stN xs n = 2 → (1 ≤ cmV xs n ∧ cmV xs n ≤ 4096) ∧ cmZ xs n ≤ 16384
def pcA (xs : px_NL) (th : Bool) (at0 n : Nat) : Nat := if th = true then upN at0 (cmV xs n) else at0
def pc1 (xs : px_NL) (on : Bool) (rn : Nat → Bool) (th : Bool) (s : px_PG) (n : Nat) : px_PG := if cB xs on rn n = true then (pcA xs th s.1 n + cmZ xs n, fun y => if y = n then pcA xs th s.1 n else s.2.1 y, some (s.2.2.getD (pcA xs th s.1 n))) else s
/-- the names' addresses -/
def RNa (σ : px_S) (N : Nat) (na : Nat → Nat) : Prop := ∀ n, n < N → gB σ 29 n = lN (na n)
section MPC
variable {F m T : Nat} {h : px_H} {tb : Nat → Nat → Nat} {tO tn tq : Nat → Nat} {xs : px_NL} {ll od : List Nat} {th on : Bool} {rn : Nat → Bool} {D : Nat → Prop}
theorem q_pC_6 (hm : m ≤ h.length) (hok : okL xs) (hod : ∀ d, d ∈ od → d < xs.length) (hcm : cmOK xs) : ∀ (c P f : Nat) (σ : px_S) (s : px_PG), P + c = od.length → c < f → RL σ xs → RO σ od → RRn σ xs on rn → s.1 + c * 20480 < 2 ^ 40 → (∀ v, s.2.2 = some v → v < 2 ^ 40) → RNa σ xs.length s.2.1 → gJ σ 81 = bsV s.2.2 → ∃ σ', f_M_placeCommons_6 F f m (bI th) (lN s.1) (nI P) (mh m h σ) = some (lN ((od.drop P).foldl (pc1 xs on rn th) s).1, mh m h σ') ∧ RNa σ' xs.length ((od.drop P).foldl (pc1 xs on rn th) s).2.1 ∧ gJ σ' 81 = bsV ((od.drop P).foldl (pc1 xs on rn th) s).2.2 ∧ (∀ v, ((od.drop P).foldl (pc1 xs on rn th) s).2.2 = some v → v < 2 ^ 40) ∧ FR [] [81] [] [29] σ σ' := by
  intro c
  induction c with
  | zero =>
    intro P f σ s hP hf hr ho hc hs hv hA h81
    obtain ⟨f, rfl⟩ : ∃ x, f = x + 1 := ⟨f - 1, by omega⟩
    have hol := ho.2.1
    unfold f_M_placeCommons_6 f_M_placeCommons_110
    rw [Mg48 hm, bs, ho.1, if_pos (nI_le (by omega) (by omega)), List.drop_eq_nil_of_le (by omega)]
    exact ⟨σ, rfl, hA, h81, hv, FR_refl σ⟩
  | succ c ih =>
    intro P f σ s hP hf hr ho hc hs hv hA h81
    obtain ⟨f, rfl⟩ : ∃ x, f = x + 1 := ⟨f - 1, by omega⟩
    have hol := ho.2.1
    have hxl : xs.length ≤ 4096 := by have := hr.1.2.1; rw [List.length_map] at this; exact this
    have hPl : P < od.length := by omega
    have hx := List.getElem?_eq_getElem hPl
    rw [List.drop_eq_getElem_cons hPl, List.foldl_cons]
    have hn := hod _ (List.getElem_mem hPl)
    generalize od[P] = n at *
    have hs40 := ar_pg3 hs
    unfold f_M_placeCommons_6 f_M_placeCommons_104
    rw [Mg48 hm, bs, ho.1, if_neg (nI_ge (by omega) (by omega)), Mr49 hm, bs, Ma49 hm (by omega), bs, ho.2.2 P n hx, e_o hm, bs, q_isCommon hm hr hok ho hx hn hc, xb_mk, nI_add]
    cases e : cB xs on rn n with
    | false =>
      have e1 : pc1 xs on rn th s n = s := by unfold pc1; rw [e, if_neg (by decide)]
      rw [if_pos (show bI false = 0 from rfl), e1]
      exact ih (P + 1) f σ s (by omega) (by omega) hr ho hc (ar_pg hs) hv hA h81
    | true =>
      obtain ⟨x, hxn⟩ : ∃ x, xs[n]? = some x := ⟨xs[n], List.getElem?_eq_getElem hn⟩
      have h2 : stN xs n = 2 := by
        unfold cB at e
        rw [Bool.and_eq_true] at e
        exact of_decide_eq_true e.1
      obtain ⟨⟨v1, v2⟩, v3⟩ := hcm n hn h2
      rw [stN_at hxn] at h2
      have r := (hr.2 n x hxn).2.2.2.2.2 h2
      have ez : cmZ xs n = x.2.2.2.2.2.2.1 := by unfold cmZ; rw [getD_at hxn]
      have ev : cmV xs n = x.2.2.2.2.2.2.2 := by unfold cmV; rw [getD_at hxn]
      rw [← ez, ← ev] at r
      have e1 : pc1 xs on rn th s n = (pcA xs th s.1 n + cmZ xs n, fun y => if y = n then pcA xs th s.1 n else s.2.1 y, some (s.2.2.getD (pcA xs th s.1 n))) := by unfold pc1; rw [e, if_pos rfl]
      have hpa : pcA xs th s.1 n ≤ s.1 + 4096 := by
        unfold pcA
        split
        · have := upN_le (v := s.1) (a := cmV xs n) v1
          omega
        · omega
      have e58 : (if bI th = 0 then f_M_placeCommons_58 F (f_M_placeCommons_6 F f) m (bI th) (nI P) (nI n) (lN s.1) (mh m h σ) else (xgR (mh m h σ) 12 27 m).bind fun t6 => (xaI (mh m h σ) 1 t6 (nI n)).bind fun t7 => xb (f_M_up F (lN s.1) t7.toInt64 (mh m h σ)) fun t8 ph9 => f_M_placeCommons_58 F (f_M_placeCommons_6 F f) m (bI th) (nI P) (nI n) t8 ph9) = f_M_placeCommons_58 F (f_M_placeCommons_6 F f) m (bI th) (nI P) (nI n) (lN (pcA xs th s.1 n)) (mh m h σ) := by
        unfold pcA
        cases th with
        | false => rw [if_pos (show bI false = 0 from rfl), if_neg (by decide)]
        | true => rw [if_neg (show ¬ bI true = 0 by decide), Mr27 hm, bs, Ma27 hm (by omega), bs, r.2, nI_l (by omega), q_up v1 (by omega), xb_mk, if_pos rfl]
      rw [if_neg (show ¬ bI true = 0 by decide), e58]
      generalize hav : pcA xs th s.1 n = a at *
      have fin : ∀ w, w = bsV (some (s.2.2.getD a)) → ∃ σ', f_M_placeCommons_79 F (f_M_placeCommons_6 F f) m (bI th) (lN a) (nI P) (nI n) m w (mh m h σ) = some (lN ((od.drop (P + 1)).foldl (pc1 xs on rn th) (pc1 xs on rn th s n)).1, mh m h σ') ∧ RNa σ' xs.length ((od.drop (P + 1)).foldl (pc1 xs on rn th) (pc1 xs on rn th s n)).2.1 ∧ gJ σ' 81 = bsV ((od.drop (P + 1)).foldl (pc1 xs on rn th) (pc1 xs on rn th s n)).2.2 ∧ (∀ v, ((od.drop (P + 1)).foldl (pc1 xs on rn th) (pc1 xs on rn th s n)).2.2 = some v → v < 2 ^ 40) ∧ FR [] [81] [] [29] σ σ' := by
        intro w hw
        obtain ⟨σ2, hσ2⟩ : ∃ z, z = sB (sJ σ 81 w) 29 (vp_updL (gB (sJ σ 81 w) 29) n (lN a)) := ⟨_, rfl⟩
        have f2 : FR [] [81] [] [29] σ σ2 := by
          rw [hσ2]
          exact FR_trans (FR_mono (FR_J σ 81 _) (by decide) (by decide) (by decide) (by decide)) (FR_mono (FR_B _ 29 _) (by decide) (by decide) (by decide) (by decide))
        have g29 : gB σ2 29 = vp_updL (gB σ 29) n (lN a) := by rw [hσ2]; rfl
        have g81 : gJ σ2 81 = w := by rw [hσ2, gJ_sB, gJ_sJ, if_pos rfl]
        obtain ⟨σ3, b1, b2, b3, b4, b5⟩ := ih (P + 1) f σ2 (pc1 xs on rn th s n) (by omega) (by omega) (RL_FR hr f2 (by decide) (by decide) (by decide)) (RO_FR ho f2 (by decide) (by decide)) (RRn_FR hc f2 (by decide) (by decide)) (by rw [e1]; exact ar_pg2 hs hpa v3) (by
          rw [e1]
          intro v hv2
          have hv2 : some (s.2.2.getD a) = some v := hv2
          have := Option.some.inj hv2
          cases e5 : s.2.2 with
          | none => rw [e5] at this; have : a = v := this; omega
          | some w => rw [e5] at this; have h6 : w = v := this; have := hv w e5; omega) (by
          rw [e1]
          intro y hy
          rw [g29]
          show _ = lN (if y = n then a else s.2.1 y)
          by_cases cy : y = n
          · rw [cy, vp_eq, if_pos rfl]
          · rw [vp_ne cy, if_neg cy]; exact hA y hy) (by rw [e1, g81]; exact hw)
        refine ⟨σ3, ?_, b2, b3, b4, FR_trans f2 b5⟩
        unfold f_M_placeCommons_79 f_M_placeCommons_104
        have q26 : gA σ2 26 n = nI (cmZ xs n) := by rw [f2.2.2.1 26 (by decide)]; exact r.1
        rw [Mp81 hm, bs, Mr29 hm, bs, Ms29 hm (by omega), bs, ← hσ2, Mr26 hm, bs, Ma26 hm (by omega), bs, q26, nI_l (by omega), lN_add, nI_add]
        rw [show lN (a + cmZ xs n) = lN (pc1 xs on rn th s n).1 by rw [e1]]
        exact b1
      unfold f_M_placeCommons_58
      have e81 : xgJ (mh m h σ) 12 81 m = some (bsV s.2.2) := by rw [Mg81 hm, h81]
      rw [e81, bs]
      cases eb : s.2.2 with
      | none =>
        rw [eb] at fin
        rw [if_neg (show ¬ lN 0 ≤ bsV none by decide)]
        exact fin _ rfl
      | some v =>
        have hvl := hv v eb
        rw [eb] at fin
        rw [if_pos (show lN 0 ≤ bsV (some v) from (pk_lLE (by decide) (by omega)).mpr (Nat.zero_le _)), bs]
        exact fin _ rfl
theorem q_placeCommons {σ : px_S} {s : px_PG} (hm : m ≤ h.length) (hF : 65536 < F) (hok : okL xs) (hod : ∀ d, d ∈ od → d < xs.length) (hcm : cmOK xs) (hr : RL σ xs) (ho : RO σ od) (hc : RRn σ xs on rn) (hs : s.1 < 2 ^ 39) (hv : ∀ v, s.2.2 = some v → v < 2 ^ 40) (hA : RNa σ xs.length s.2.1) (h81 : gJ σ 81 = bsV s.2.2) : ∃ σ', f_M_placeCommons F m (lN s.1) (bI th) (mh m h σ) = some (lN (od.foldl (pc1 xs on rn th) s).1, mh m h σ') ∧ RNa σ' xs.length (od.foldl (pc1 xs on rn th) s).2.1 ∧ gJ σ' 81 = bsV (od.foldl (pc1 xs on rn th) s).2.2 ∧ (∀ v, (od.foldl (pc1 xs on rn th) s).2.2 = some v → v < 2 ^ 40) ∧ FR [] [81] [] [29] σ σ' := by
  have hol := ho.2.1
  have := q_pC_6 (F := F) (h := h) (th := th) (on := on) (rn := rn) hm hok hod hcm od.length 0 F σ s (by omega) (by omega) hr ho hc (by omega) hv hA h81
  rw [List.drop_zero] at this
  exact this
def psF (B : Nat → Nat) (pf : List Nat) (tO : Nat → Nat) (tb : Nat → Nat → Nat) (pp : Nat) (ad : Nat → Nat) (y : Nat) : Nat := if sS tb y = true then pp + baN B pf (pS tO tb y) (zS tb y) 0 else ad y
theorem q_pS_7 {B : Nat → Nat} {ad : Nat → Nat} {pp : Nat} (hm : m ≤ h.length) (hF : 65540 < F) (hl : llP T tb ll) (hnd : ll.Nodup) (hn : ndB B (nd0 B tO tb ll)) (hI : PIn B (nd0 B tO tb ll) (pf0 B tO tb ll)) (hD : ∀ x, D x → sS tb x = false) (hpp : pp < 2 ^ 40) : ∀ (c P f : Nat) (σ : px_S), P + c = ll.length → c < f → RWp σ T tO tn tq tb ll B → RPo σ B (nd0 B tO tb ll) (pf0 B tO tb ll) → gJ σ 90 = lN pp → (∀ (Q x : Nat), ll[Q]? = some x → (D x ∨ (Q < P ∧ sS tb x = true)) → gB σ 57 Q = lN (psF B (pf0 B tO tb ll) tO tb pp ad x) ∧ gB σ 58 x = lN (psF B (pf0 B tO tb ll) tO tb pp ad x)) → ∃ σ', f_M_placeStrings_7 F f m (lN pp) (nI P) (mh m h σ) = some (lN (pp + psz B (pf0 B tO tb ll)), mh m h σ') ∧ (∀ (Q x : Nat), ll[Q]? = some x → (D x ∨ sS tb x = true) → gB σ' 57 Q = lN (psF B (pf0 B tO tb ll) tO tb pp ad x) ∧ gB σ' 58 x = lN (psF B (pf0 B tO tb ll) tO tb pp ad x)) ∧ FR [] [] [] [57, 58] σ σ' := by
  have hl1 := hl.1
  have hsz := PIn_sz hI
  intro c
  induction c with
  | zero =>
    intro P f σ hP hf hW hr h90 hA
    obtain ⟨f, rfl⟩ : ∃ x, f = x + 1 := ⟨f - 1, by omega⟩
    unfold f_M_placeStrings_7 f_M_placeStrings_97
    rw [Mg50 hm, bs, hW.2.1.1, if_pos (nI_le (by omega) (by omega)), Mg88 hm, bs, hr.2.2.1, nI_l (by omega), lN_add]
    exact ⟨σ, rfl, fun Q x hx hd => hA Q x hx (hd.elim Or.inl (fun q => Or.inr ⟨by have := (List.getElem?_eq_some_iff.mp hx).1; omega, q⟩)), FR_refl σ⟩
  | succ c ih =>
    intro P f σ hP hf hW hr h90 hA
    obtain ⟨f, rfl⟩ : ∃ x, f = x + 1 := ⟨f - 1, by omega⟩
    have hPl : P < ll.length := by omega
    have hx := List.getElem?_eq_getElem hPl
    have hxm := List.getElem_mem hPl
    have hx2 := hl.2 _ hxm
    have huq : ∀ Q, ll[Q]? = some ll[P] → Q = P := fun Q hQ => by
      have l1 := (List.getElem?_eq_some_iff.mp hQ).1
      have e1 := (List.getElem?_eq_some_iff.mp hQ).2
      exact (List.getElem_inj hnd (h₀ := l1) (h₁ := hPl)).mp e1
    generalize ll[P] = x at *
    obtain ⟨r1, r2, r3, r4, r5, r6⟩ := hW.2.1.2 P x hx
    have hb := hW.1 _ hx2.1
    unfold f_M_placeStrings_7 f_M_placeStrings_91
    rw [Mg50 hm, bs, hW.2.1.1, if_neg (nI_ge (by omega) (by omega)), Mr51 hm, bs, Ma51 hm (by omega), bs, r1, e_o hm, bs, O_obj hm hb, xb_mk, Mr54 hm, bs, Ma54 hm (by omega), bs, r4, e_o hm, bs, q_isStrings hm (by omega) hb hx2.2.2, xb_mk, nI_add]
    cases es : oStr (tb (x / 24)) (x % 24) with
    | false =>
      rw [if_pos (show bI false = 0 from rfl)]
      refine ih (P + 1) f σ (by omega) (by omega) hW hr h90 (fun Q y hy hd => hA Q y hy (hd.elim Or.inl (fun q => ?_)))
      by_cases cq : Q = P
      · exfalso
        rw [cq, hx] at hy
        rw [← Option.some.inj hy] at q
        have : sS tb x = false := es
        rw [this] at q
        exact nomatch q.2
      · exact Or.inr ⟨by omega, q.2⟩
    | true =>
      have hx24 : 24 * (x / 24) + x % 24 = x := by omega
      have hba := q_byteAddress (F := F) (h := h) (t := x / 24) (i := x % 24) (V := 0) (pp := pp) hm hF hW hl hn hr hI (by rw [hx24]; exact hxm) (by omega) es (by decide) h90
      have epf : psF B (pf0 B tO tb ll) tO tb pp ad x = pp + baN B (pf0 B tO tb ll) (tO (x / 24) + oP (tb (x / 24)) (x % 24)) (oZ (tb (x / 24)) (x % 24)) 0 := by
        unfold psF
        rw [if_pos (show sS tb x = true from es)]
        rfl
      rw [← epf] at hba
      generalize hav : psF B (pf0 B tO tb ll) tO tb pp ad x = a at *
      obtain ⟨σ2, hσ2⟩ : ∃ z, z = sB (sB σ 57 (vp_updL (gB σ 57) P (lN a))) 58 (vp_updL (gB (sB σ 57 (vp_updL (gB σ 57) P (lN a))) 58) x (lN a)) := ⟨_, rfl⟩
      have f2 : FR [] [] [] [57, 58] σ σ2 := by
        rw [hσ2]
        exact FR_trans (FR_mono (FR_B σ 57 _) (by decide) (by decide) (by decide) (by decide)) (FR_mono (FR_B _ 58 _) (by decide) (by decide) (by decide) (by decide))
      have g57 : gB σ2 57 = vp_updL (gB σ 57) P (lN a) := by rw [hσ2, gB_sB, if_neg (by decide), gB_sB, if_pos rfl]
      have g58 : gB σ2 58 = vp_updL (gB σ 58) x (lN a) := by rw [hσ2, gB_sB, if_pos rfl, gB_sB, if_neg (by decide)]
      have hx1536 : x < 1536 := by have := hb.1.1; omega
      obtain ⟨σ3, b1, b2, b3⟩ := ih (P + 1) f σ2 (by omega) (by omega) (RWp_FR hW f2 (by decide) (by decide)) (RPo_FR hr f2 (by decide) (by decide)) ((f2.2.1 90 (by decide)).trans h90) (fun Q y hy hd => by
        rw [g57, g58]
        by_cases cy : y = x
        · rw [cy] at hy ⊢
          rw [huq Q hy, vp_eq, vp_eq, hav]
          exact ⟨rfl, rfl⟩
        · have cQ : Q ≠ P := fun q => cy (by rw [q, hx] at hy; exact (Option.some.inj hy).symm)
          rw [vp_ne cQ, vp_ne cy]
          exact hA Q y hy (hd.elim Or.inl (fun q => Or.inr ⟨by omega, q.2⟩)))
      refine ⟨σ3, ?_, b2, FR_trans f2 b3⟩
      have q51 : gA (sB σ 57 (vp_updL (gB σ 57) P (lN a))) 51 P = nI (x / 24) := r1
      have q54 : gA (sB σ 57 (vp_updL (gB σ 57) P (lN a))) 54 P = nI (x % 24) := r4
      have q57 : gB (sB σ 57 (vp_updL (gB σ 57) P (lN a))) 57 P = lN a := by rw [gB_sB, if_pos rfl, vp_eq]
      rw [if_neg (show ¬ bI true = 0 by decide), Mr57 hm, bs, Mr54 hm, bs, Ma54 hm (by omega), bs, r4, e_o hm, bs, hba, xb_mk, Ms57 hm (by omega), bs, Mr58 hm, bs, Mr51 hm, bs, Ma51 hm (by omega), bs, q51, Mr54 hm, bs, Ma54 hm (by omega), bs, q54, Mr57 hm, bs, Ma57 hm (by omega), bs, q57, pk_mul, nI_add, hx24, Ms58 hm hx1536, bs, ← hσ2]
      exact b1
theorem q_placeStrings {σ : px_S} {B : Nat → Nat} {ad : Nat → Nat} {pp : Nat} (hm : m ≤ h.length) (hF : 65540 < F) (hl : llP T tb ll) (hnd : ll.Nodup) (hn : ndB B (nd0 B tO tb ll)) (hI : PIn B (nd0 B tO tb ll) (pf0 B tO tb ll)) (hD : ∀ x, D x → sS tb x = false) (hpp : pp < 2 ^ 40) (hW : RWp σ T tO tn tq tb ll B) (hr : RPo σ B (nd0 B tO tb ll) (pf0 B tO tb ll)) (hA : RAd σ ll D ad) : ∃ σ', f_M_placeStrings F m (lN pp) (mh m h σ) = some (lN (pp + psz B (pf0 B tO tb ll)), mh m h σ') ∧ RAd σ' ll (fun x => D x ∨ sS tb x = true) (psF B (pf0 B tO tb ll) tO tb pp ad) ∧ gJ σ' 90 = lN pp ∧ FR [] [90] [] [57, 58] σ σ' := by
  have hl1 := hl.1
  have f1 := FR_J σ 90 (lN pp)
  obtain ⟨σ', a1, a2, a3⟩ := q_pS_7 (F := F) (h := h) (D := D) (ad := ad) (pp := pp) hm hF hl hnd hn hI hD hpp ll.length 0 F (sJ σ 90 (lN pp)) (by omega) (by omega) (RWp_FR hW f1 (by decide) (by decide)) (RPo_FR hr f1 (by decide) (by decide)) (by rw [gJ_sJ, if_pos rfl]) (fun Q x hx hd => by
    have hd2 : D x := hd.elim id (fun q => absurd q.1 (Nat.not_lt_zero Q))
    have e : psF B (pf0 B tO tb ll) tO tb pp ad x = ad x := by unfold psF; rw [hD x hd2, if_neg (by decide)]
    rw [e]
    exact hA Q x hx hd2)
  refine ⟨σ', ?_, a2, ?_, FR_trans (FR_mono f1 (by decide) (by decide) (by decide) (by decide)) (FR_mono a3 (by decide) (by decide) (by decide) (by decide))⟩
  · unfold f_M_placeStrings
    rw [Mp90 hm, bs, a1]
  · rw [a3.2.1 90 (by decide), gJ_sJ, if_pos rfl]
end MPC
