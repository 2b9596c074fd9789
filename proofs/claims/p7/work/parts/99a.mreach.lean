/-! what is reached: pure, and the reference's reachSection, reachName -/
abbrev px_RR : Type := (Nat → Bool) × (Nat → Bool) × Bool
def bup (R : Nat → Bool) (y : Nat) (x : Nat) : Bool := if x = y then true else R x
theorem bup_m {R : Nat → Bool} {y x : Nat} (h : R x = true) : bup R y x = true := by
  unfold bup
  split
  · rfl
  · exact h
theorem bup_e {R : Nat → Bool} {y : Nat} : bup R y y = true := if_pos rfl
def rs1 (x : Option Nat) (s : px_RR) : px_RR := match x with
  | none => s
  | some y => if s.1 y = true then s else (bup s.1 y, s.2.1, true)
def rn1 (x : Option Nat) (s : px_RR) : px_RR := match x with
  | none => s
  | some n => (s.1, bup s.2.1 n, s.2.2)
def secT (tb : Nat → Nat → Nat) (dr : Nat → Bool) (t w : Nat) : Option Nat := if 0 < w ∧ w < oS (tb t) ∧ oK (tb t) w = true ∧ dr (24 * t + w) = false then some (24 * t + w) else none
def secN (tb : Nat → Nat → Nat) (dr : Nat → Bool) (r : px_NR) : Option Nat := match r.2.2.2.1 with
  | none => none
  | some q => if r.1 = 1 ∨ r.1 = 3 then secT tb dr q.1 (wNo dr q.1 (tb q.1) q.2) else none
def secY (tb : Nat → Nat → Nat) (dr : Nat → Bool) (xs : px_NL) (t k : Nat) : Option Nat := if k = 0 then none else if yB (tb t) k = 0 then secT tb dr t (wNo dr t (tb t) k) else match xs[plc (yT (tb t) k) (xs.map Prod.fst)]? with
  | none => none
  | some x => secN tb dr x.2
def comN (xs : px_NL) (i : Nat) : Option Nat := if stN xs i = 2 then some i else none
def comY (tb : Nat → Nat → Nat) (xs : px_NL) (t k : Nat) : Option Nat := if k = 0 ∨ yB (tb t) k = 0 then none else comN xs (plc (yT (tb t) k) (xs.map Prod.fst))
/-- the reference's rows of what is reached -/
def RR (N : Nat) (σ : px_S) (s : px_RR) : Prop := (∀ i, i < 1536 → gA σ 66 i = bI (s.1 i)) ∧ (∀ i, i < N → gA σ 67 i = bI (s.2.1 i)) ∧ gI σ 98 = bI s.2.2
section MRS
variable {F m t o n w N : Nat} {h : px_H} {σ : px_S} {dr : Nat → Bool} {tb : Nat → Nat → Nat} {s : px_RR} {xs : px_NL}
theorem q_reachSection (hm : m ≤ h.length) (hF : 24 < F) (hb : OB σ t o n (tb t)) (hd : RDr σ dr) (hw : w < 2 ^ 31) (hr : RR N σ s) : ∃ σ', f_M_reachSection F m (nI t) (nI w) (mh m h σ) = some ((), mh m h σ') ∧ RR N σ' (rs1 (secT tb dr t w) s) ∧ FR [98] [] [66] [] σ σ' := by
  have ht := hb.1.1
  have hS := (OB_w hb).1.2.1.2
  unfold f_M_reachSection f_M_reachSection_58
  have no : secT tb dr t w = none → RR N σ (rs1 (secT tb dr t w) s) := fun e => by rw [e]; exact hr
  by_cases c1 : w = 0
  · rw [if_pos (by rw [c1]; decide)]
    exact ⟨σ, rfl, no (by unfold secT; rw [if_neg (fun q => by omega)]), FR_refl σ⟩
  · rw [if_neg (show ¬ nI w ≤ 0 from nI_ge (a := 0) (by omega) (by omega)), e_o hm, bs, O_obj hm hb, xb_mk, e_o hm, bs, O_sec hm hF hb, xb_mk]
    by_cases c2 : oS (tb t) ≤ w
    · rw [if_pos (nI_le (by omega) (by omega))]
      exact ⟨σ, rfl, no (by unfold secT; rw [if_neg (fun q => by omega)]), FR_refl σ⟩
    · rw [if_neg (nI_ge (by omega) (by omega)), e_o hm, bs, O_obj hm hb, xb_mk, e_o hm, bs, O_kept hm hF hb (by omega), xb_mk]
      cases ek : oK (tb t) w with
      | false =>
        rw [if_pos (show bI false = 0 from rfl)]
        exact ⟨σ, rfl, no (by unfold secT; rw [if_neg (fun q => by rw [ek] at q; exact nomatch q.2.2.1)]), FR_refl σ⟩
      | true =>
        rw [if_neg (show ¬ bI true = 0 by decide), Mr65 hm, bs, pk_mul, nI_add, Ma65 hm (by omega), bs, hd _ (by omega)]
        cases ed : dr (24 * t + w) with
        | true =>
          rw [if_neg (show ¬ bI true = 0 by decide)]
          exact ⟨σ, rfl, no (by unfold secT; rw [if_neg (fun q => by rw [ed] at q; exact nomatch q.2.2.2)]), FR_refl σ⟩
        | false =>
          have es : secT tb dr t w = some (24 * t + w) := by unfold secT; rw [if_pos ⟨by omega, by omega, ek, ed⟩]
          rw [if_pos (show bI false = 0 from rfl), Mr66 hm, bs, Ma66 hm (by omega), bs, hr.1 _ (by omega), es]
          cases er : s.1 (24 * t + w) with
          | true =>
            rw [if_neg (show ¬ bI true = 0 by decide)]
            refine ⟨σ, rfl, ?_, FR_refl σ⟩
            show RR N σ (if s.1 (24 * t + w) = true then s else _)
            rw [if_pos er]; exact hr
          | false =>
            rw [if_pos (show bI false = 0 from rfl), bs, show nI 1 &&& 1 = bI true from rfl, Ms66 hm (by omega), bs, show nI 1 = bI true from rfl, e_pZ hm rfl, bs]
            refine ⟨_, rfl, ?_, FR_trans (FR_mono (FR_A σ 66 _) (by decide) (by decide) (by decide) (by decide)) (FR_mono (FR_I _ 98 _) (by decide) (by decide) (by decide) (by decide))⟩
            show RR N _ (if s.1 (24 * t + w) = true then s else (bup s.1 (24 * t + w), s.2.1, true))
            rw [if_neg (by rw [er]; decide)]
            refine ⟨fun i hi => ?_, fun i hi => ?_, ?_⟩
            · show upd (gA σ 66) (24 * t + w) (bI true) i = bI (bup s.1 (24 * t + w) i)
              unfold bup
              by_cases ci : i = 24 * t + w
              · rw [if_pos ci, ci, upd_eq]
              · rw [if_neg ci, upd_ne ci]; exact hr.1 i hi
            · exact hr.2.1 i hi
            · rw [gI_sI, if_pos rfl]
theorem q_isGiven {i : Nat} {x : List Nat × px_NR} (hm : m ≤ h.length) (hr : RL σ xs) (hok : okL xs) (hx : xs[i]? = some x) (hby : ∀ q, x.2.2.2.2.1 = some q → q.1 < 64) : f_M_isGiven F m (nI i) (mh m h σ) = some (bI (decide (x.2.1 = 3) && x.2.2.2.2.1.isNone), mh m h σ) := by
  have hxl : xs.length ≤ 4096 := by have := hr.1.2.1; rw [List.length_map] at this; exact this
  have hi := (List.getElem?_eq_some_iff.mp hx).1
  have rr := hr.2 i x hx
  have h4 := (hok i x hx).1
  unfold f_M_isGiven f_M_isGiven_23 f_M_isGiven_24
  rw [Mr23 hm, bs, Ma23 hm (by omega), bs, rr.1]
  by_cases c1 : x.2.1 = 3
  · rw [if_pos (by rw [c1]), Mr24 hm, bs, Ma24 hm (by omega), bs, decide_eq_true c1, Bool.true_and]
    have hy := rr.2.2.2.1
    cases e : x.2.2.2.2.1 with
    | none =>
      rw [e] at hy
      have hy : gA σ 24 i = Int32.ofInt (-1) := hy
      rw [hy, if_neg (by decide), xz_1]
      rfl
    | some q =>
      rw [e] at hy
      have hy : gA σ 24 i = nI q.1 ∧ gA σ 25 i = nI q.2 := hy
      have := hby q e
      rw [hy.1, if_pos (nI_0le (by omega)), xz_0]
      rfl
  · rw [if_neg (fun q => c1 ((nI_eq (by omega) (by decide)).mp q)), decide_eq_false c1, Bool.false_and, xz_0]
theorem q_reachName_45 {T i : Nat} {tO tn : Nat → Nat} {x : List Nat × px_NR} {q : Nat × Nat} (hm : m ≤ h.length) (hF : 4096 < F) (hB : ∀ t, t < T → OB σ t (tO t) (tn t) (tb t)) (hd : RDr σ dr) (hr : RL σ xs) (hx : xs[i]? = some x) (hby : byP T tb dr x) (hq : x.2.2.2.2.1 = some q) (hs : RR N σ s) : ∃ σ', f_M_reachName_45 F m (nI i) (mh m h σ) = some ((), mh m h σ') ∧ RR N σ' (rs1 (secT tb dr q.1 (wNo dr q.1 (tb q.1) q.2)) s) ∧ FR [98] [] [66] [] σ σ' := by
  have hxl : xs.length ≤ 4096 := by have := hr.1.2.1; rw [List.length_map] at this; exact this
  have hi := (List.getElem?_eq_some_iff.mp hx).1
  have rr := hr.2 i x hx
  unfold byP at hby
  rw [hq] at hby
  obtain ⟨b1, b2, b3, b4, b5, b6⟩ := hby
  have hy := rr.2.2.2.1
  rw [hq] at hy
  have hy : gA σ 24 i = nI q.1 ∧ gA σ 25 i = nI q.2 := hy
  have hb := hB q.1 b1
  obtain ⟨σ', a1, a2, a3⟩ := q_reachSection (F := F) (w := wNo dr q.1 (tb q.1) q.2) (s := s) hm (by omega) hb hd (by have := wNo_lt (k := q.2) (dr := dr) hb; omega) hs
  refine ⟨σ', ?_, a2, a3⟩
  unfold f_M_reachName_45 f_M_reachName_71
  simp only [bs, Mr24 hm, Ma24 hm (show i < 4096 by omega), Mr25 hm, Ma25 hm (show i < 4096 by omega), hy.1, hy.2, e_o hm, O_wNo hm (show 24 < F by omega) hb hd b2.2, xb_mk, a1]
theorem q_reachName {T i : Nat} {tO tn : Nat → Nat} {x : List Nat × px_NR} (hm : m ≤ h.length) (hF : 4096 < F) (hT : T ≤ 64) (hB : ∀ t, t < T → OB σ t (tO t) (tn t) (tb t)) (hd : RDr σ dr) (hr : RL σ xs) (hok : okL xs) (hx : xs[i]? = some x) (hby : byP T tb dr x) (hs : RR N σ s) : ∃ σ', f_M_reachName F m (nI i) (mh m h σ) = some ((), mh m h σ') ∧ RR N σ' (rs1 (secN tb dr x.2) (rn1 (comN xs i) s)) ∧ FR [98] [] [66, 67] [] σ σ' := by
  have hxl : xs.length ≤ 4096 := by have := hr.1.2.1; rw [List.length_map] at this; exact this
  have hi := (List.getElem?_eq_some_iff.mp hx).1
  have h4 := (hok i x hx).1
  have g1 : ∃ σ1, f_M_reachName F m (nI i) (mh m h σ) = f_M_reachName_17 F m (nI i) (mh m h σ1) ∧ RR N σ1 (rn1 (comN xs i) s) ∧ FR [] [] [67] [] σ σ1 := by
    unfold f_M_reachName comN
    rw [Mr23 hm, bs, Ma23 hm (by omega), bs, (hr.2 i x hx).1, stN_at hx]
    by_cases c : x.2.1 = 2
    · rw [if_pos (by rw [c]), if_pos c, Mr67 hm, bs, show nI 1 &&& 1 = bI true from rfl, Ms67 hm (by omega), bs]
      refine ⟨_, rfl, ⟨hs.1, fun j hj => ?_, hs.2.2⟩, FR_A σ 67 _⟩
      show upd (gA σ 67) i (bI true) j = bI (bup s.2.1 i j)
      unfold bup
      by_cases ci : j = i
      · rw [if_pos ci, ci, upd_eq]
      · rw [if_neg ci, upd_ne ci]; exact hs.2.1 j hj
    · rw [if_neg (fun q => c ((nI_eq (by omega) (by decide)).mp q)), if_neg c]
      exact ⟨σ, rfl, hs, FR_refl σ⟩
  obtain ⟨σ1, e1, e2, e3⟩ := g1
  have hB1 : ∀ t, t < T → OB σ1 t (tO t) (tn t) (tb t) := fun t ht => OB_FR (hB t ht) e3 (by decide)
  have hd1 : RDr σ1 dr := fun j hj => by rw [e3.2.2.1 65 (by decide)]; exact hd j hj
  have hr1 : RL σ1 xs := RL_FR hr e3 (by decide) (by decide) (by decide)
  have gv := q_isGiven (F := F) (σ := σ1) hm hr1 hok hx (fun q hq => by
    have := hby
    unfold byP at this
    rw [hq] at this
    have := this.1
    omega)
  rw [e1]
  unfold f_M_reachName_17 f_M_reachName_71
  rw [Mr23 hm, bs, Ma23 hm (by omega), bs, (hr1.2 i x hx).1]
  have fin : secN tb dr x.2 = none → ∃ σ', (some ((), mh m h σ1) : Option (Unit × px_H)) = some ((), mh m h σ') ∧ RR N σ' (rs1 (secN tb dr x.2) (rn1 (comN xs i) s)) ∧ FR [98] [] [66, 67] [] σ σ' := fun e => by
    rw [e]
    exact ⟨σ1, rfl, e2, FR_mono e3 (by decide) (by decide) (by decide) (by decide)⟩
  cases eq : x.2.2.2.2.1 with
  | none =>
    have hb0 := hby
    unfold byP at hb0
    rw [eq] at hb0
    have hb0 : x.2.1 = 0 ∨ x.2.1 = 3 ∨ x.2.1 = 4 := hb0
    have es : secN tb dr x.2 = none := by unfold secN; rw [eq]
    rw [if_neg (fun q => by have := (nI_eq (by omega) (by decide)).mp q; omega)]
    by_cases c3 : x.2.1 = 3
    · rw [bs, Ma23 hm (by omega), bs, (hr1.2 i x hx).1, if_pos (by rw [c3]), e_o hm, bs, gv, xb_mk, eq, decide_eq_true c3, if_neg (by decide)]
      exact fin es
    · rw [bs, Ma23 hm (by omega), bs, (hr1.2 i x hx).1, if_neg (fun q => c3 ((nI_eq (by omega) (by decide)).mp q))]
      exact fin es
  | some q =>
    obtain ⟨σ2, a1, a2, a3⟩ := q_reachName_45 (F := F) (σ := σ1) (s := rn1 (comN xs i) s) hm hF hB1 hd1 hr1 hx hby eq e2
    have fr : FR [98] [] [66, 67] [] σ σ2 := FR_trans (FR_mono e3 (by decide) (by decide) (by decide) (by decide)) (FR_mono a3 (by decide) (by decide) (by decide) (by decide))
    have es : x.2.1 = 1 ∨ x.2.1 = 3 → secN tb dr x.2 = secT tb dr q.1 (wNo dr q.1 (tb q.1) q.2) := fun c => by
      unfold secN
      rw [eq]
      show (if x.2.1 = 1 ∨ x.2.1 = 3 then _ else none) = _
      rw [if_pos c]
    have es2 : ¬ (x.2.1 = 1 ∨ x.2.1 = 3) → secN tb dr x.2 = none := fun c => by
      unfold secN
      rw [eq]
      show (if x.2.1 = 1 ∨ x.2.1 = 3 then _ else none) = _
      rw [if_neg c]
    by_cases c1 : x.2.1 = 1
    · rw [if_pos (by rw [c1]), a1, es (Or.inl c1)]
      exact ⟨σ2, rfl, a2, fr⟩
    · rw [if_neg (fun q => c1 ((nI_eq (by omega) (by decide)).mp q)), bs, Ma23 hm (by omega), bs, (hr1.2 i x hx).1]
      by_cases c3 : x.2.1 = 3
      · rw [if_pos (by rw [c3]), e_o hm, bs, gv, xb_mk, eq, decide_eq_true c3, if_pos (by rfl), a1, es (Or.inr c3)]
        exact ⟨σ2, rfl, a2, fr⟩
      · rw [if_neg (fun q => c3 ((nI_eq (by omega) (by decide)).mp q))]
        exact fin (es2 (fun q => q.elim c1 c3))
end MRS
