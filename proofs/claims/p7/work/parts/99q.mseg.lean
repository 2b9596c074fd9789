/-! isCommon, findSegments of the reference -/
def sgO (g : Nat) : Nat := if g < 2 then g else 2
/-- the name of number n is a common one that stays -/
def cB (xs : px_NL) (on : Bool) (rn : Nat → Bool) (n : Nat) : Bool := decide (stN xs n = 2) && (!on || rn n)
def RRn (σ : px_S) (xs : px_NL) (on : Bool) (rn : Nat → Bool) : Prop := gI σ 68 = bI on ∧ (on = true → ∀ n, n < xs.length → gA σ 67 n = bI (rn n))
theorem RRn_FR {σ σ' : px_S} {I J A B : List Nat} {xs : px_NL} {on : Bool} {rn : Nat → Bool} (h : RRn σ xs on rn) (f : FR I J A B σ σ') (h1 : 68 ∉ I) (h2 : 67 ∉ A) : RRn σ' xs on rn := ⟨(f.1 68 h1).trans h.1, fun e i hi => by rw [f.2.2.1 67 h2]; exact h.2 e i hi⟩
def cmZ (xs : px_NL) (n : Nat) : Nat := (xs.getD n ([], nr0)).2.2.2.2.2.2.1
def cmV (xs : px_NL) (n : Nat) : Nat := (xs.getD n ([], nr0)).2.2.2.2.2.2.2
theorem getD_at {xs : px_NL} {n : Nat} {x : List Nat × px_NR} (h : xs[n]? = some x) : xs.getD n ([], nr0) = x := by rw [List.getD_eq_getElem?_getD, h]; rfl
/-- a laid section counts for segment s -/
def thx (tb : Nat → Nat → Nat) (s x : Nat) : Bool := decide (sgO (oG (tb (x / 24)) (x % 24)) = s) && decide (0 < zS tb x)
def thc (xs : px_NL) (on : Bool) (rn : Nat → Bool) (n : Nat) : Bool := cB xs on rn n && decide (0 < cmZ xs n)
def thS (tb : Nat → Nat → Nat) (ll : List Nat) (xs : px_NL) (od : List Nat) (on : Bool) (rn : Nat → Bool) (ns s : Nat) : Bool := ll.any (thx tb s) || (decide (s = 2) && (od.any (thc xs on rn) || decide (0 < ns)))
section MSG
variable {F m T s : Nat} {h : px_H} {σ : px_S} {tb : Nat → Nat → Nat} {tq : Nat → Nat} {xs : px_NL} {od ll : List Nat} {on : Bool} {rn : Nat → Bool} {k7 : Nat → Int32 → px_H → Option (Unit × px_H)}
theorem q_segmentOf {g : Nat} (hg : g < 2 ^ 31) : f_M_segmentOf F (nI g) h = some (nI (sgO g), h) := by
  unfold f_M_segmentOf f_M_segmentOf_10 sgO
  by_cases c : g < 2
  · rw [if_neg (nI_ge (by omega) (by omega)), if_pos c]
  · rw [if_pos (nI_le (by omega) (by omega)), if_neg c]
theorem q_isCommon {d n : Nat} (hm : m ≤ h.length) (hr : RL σ xs) (hok : okL xs) (ho : RO σ od) (hd : od[d]? = some n) (hn : n < xs.length) (hc : RRn σ xs on rn) : f_M_isCommon F m (nI d) (mh m h σ) = some (bI (cB xs on rn n), mh m h σ) := by
  have hxl : xs.length ≤ 4096 := by have := hr.1.2.1; rw [List.length_map] at this; exact this
  have hdl := (List.getElem?_eq_some_iff.mp hd).1
  have hol := ho.2.1
  obtain ⟨x, hx⟩ : ∃ x, xs[n]? = some x := ⟨xs[n], List.getElem?_eq_getElem hn⟩
  have h4 := (hok n x hx).1
  unfold f_M_isCommon f_M_isCommon_36 f_M_isCommon_40 f_M_isCommon_41 cB
  simp only [bs, Mr23 hm, Mr49 hm, Ma49 hm (show d < 4096 by omega), ho.2.2 d n hd, Ma23 hm (show n < 4096 by omega), (hr.2 n x hx).1, Mg68 hm, hc.1, Mr67 hm, Ma67 hm (show n < 4096 by omega), stN_at hx, xz_0, xz_1]
  by_cases c : x.2.1 = 2
  · rw [if_pos (by rw [c]), decide_eq_true c, Bool.true_and]
    cases on with
    | false => rw [if_pos (show bI false = 0 from rfl)] <;> rfl
    | true =>
      rw [if_neg (show ¬ bI true = 0 by decide), hc.2 rfl n hn]
      cases rn n with
      | false => rw [if_pos (show bI false = 0 from rfl)] <;> rfl
      | true => rw [if_neg (show ¬ bI true = 0 by decide)] <;> rfl
  · rw [if_neg (fun q => c ((nI_eq (by omega) (by decide)).mp q)), decide_eq_false c, Bool.false_and]
theorem q_fSg_21 (hm : m ≤ h.length) (hs : s < 3) (hl : llP T tb ll) (hZ : ∀ x, x ∈ ll → zS tb x < 2 ^ 31) : ∀ (c P g : Nat) (σ : px_S) (b : Bool), P + c = ll.length → c < g → RLa σ tq tb ll → gA σ 59 s = bI b → ∃ σ', f_M_findSegments_21 F k7 g m (nI s) (nI P) (mh m h σ) = f_M_findSegments_77 F k7 m (nI s) (mh m h σ') ∧ gA σ' 59 s = bI (b || (ll.drop P).any (thx tb s)) ∧ (∀ j, j ≠ s → gA σ' 59 j = gA σ 59 j) ∧ FR [] [] [59] [] σ σ' := by
  have hl1 := hl.1
  intro c
  induction c with
  | zero =>
    intro P g σ b hP hg hL h59
    obtain ⟨g, rfl⟩ : ∃ x, g = x + 1 := ⟨g - 1, by omega⟩
    unfold f_M_findSegments_21
    rw [Mg50 hm, bs, hL.1, if_pos (nI_le (by omega) (by omega)), List.drop_eq_nil_of_le (by omega)]
    exact ⟨σ, rfl, by rw [h59, List.any_nil, Bool.or_false], fun _ _ => rfl, FR_refl σ⟩
  | succ c ih =>
    intro P g σ b hP hg hL h59
    obtain ⟨g, rfl⟩ : ∃ x, g = x + 1 := ⟨g - 1, by omega⟩
    have hPl : P < ll.length := by omega
    have hx := List.getElem?_eq_getElem hPl
    rw [List.drop_eq_getElem_cons hPl, List.any_cons]
    have hx2 := hZ _ (List.getElem_mem hPl)
    generalize ll[P] = x at *
    obtain ⟨r1, r2, r3, r4, r5, r6⟩ := hL.2 P x hx
    have hG : oG (tb (x / 24)) (x % 24) ≤ 5 := by unfold oG; repeat (first | omega | split)
    have fin : ∀ v : Bool, v = (b || thx tb s x) → ∃ σ', (((xsI (mh m h σ) 3 (m + 45) (nI s) (bI v &&& 1)).bind fun ph1 => f_M_findSegments_21 F k7 g m (nI s) (nI P + nI 1) ph1) = f_M_findSegments_77 F k7 m (nI s) (mh m h σ')) ∧ gA σ' 59 s = bI (b || (thx tb s x || (ll.drop (P + 1)).any (thx tb s))) ∧ (∀ j, j ≠ s → gA σ' 59 j = gA σ 59 j) ∧ FR [] [] [59] [] σ σ' := by
      intro v hv
      rw [show bI v &&& 1 = bI v by cases v <;> rfl, Ms59 hm hs, bs, nI_add]
      obtain ⟨σ2, b1, b2, b3, b4⟩ := ih (P + 1) g (sA σ 59 (upd (gA σ 59) s (bI v))) v (by omega) (by omega) (RLa_FR hL (FR_A σ 59 _) (by decide) (by decide)) (by show upd (gA σ 59) s (bI v) s = _; rw [upd_eq])
      refine ⟨σ2, b1, by rw [b2, hv, Bool.or_assoc], fun j hj => ?_, FR_trans (FR_A σ 59 _) b4⟩
      rw [b3 j hj]
      show upd (gA σ 59) s (bI v) j = _
      rw [upd_ne hj]
    unfold f_M_findSegments_21 f_M_findSegments_69 f_M_findSegments_65 f_M_findSegments_70
    rw [Mg50 hm, bs, hL.1, if_neg (nI_ge (by omega) (by omega)), Mr59 hm, bs, bs, Ma59 hm hs, bs, h59]
    cases b with
    | true =>
      rw [if_neg (show ¬ bI true = 0 by decide)]
      exact fin true rfl
    | false =>
      rw [if_pos (show bI false = 0 from rfl), Mr55 hm, bs, Ma55 hm (by omega), bs, r5, q_segmentOf (by omega), xb_mk]
      have hsg : sgO (oG (tb (x / 24)) (x % 24)) ≤ 2 := by unfold sgO; split <;> omega
      by_cases c1 : sgO (oG (tb (x / 24)) (x % 24)) = s
      · rw [if_pos (by rw [c1]), Mr56 hm, bs, Ma56 hm (by omega), bs, r6]
        by_cases c2 : 0 < zS tb x
        · rw [if_neg (show ¬ nI (oZ (tb (x / 24)) (x % 24)) ≤ 0 from nI_ge (a := 0) c2 hx2)]
          exact fin true (by unfold thx; rw [decide_eq_true c1, decide_eq_true c2]; rfl)
        · have : oZ (tb (x / 24)) (x % 24) = 0 := Nat.eq_zero_of_not_pos c2
          rw [this, if_pos (by decide)]
          exact fin false (by unfold thx; rw [decide_eq_false c2, Bool.and_false]; rfl)
      · rw [if_neg (fun q => c1 ((nI_eq (by omega) (by omega)).mp q))]
        exact fin false (by unfold thx; rw [decide_eq_false c1]; rfl)
theorem q_fSg_79 (hm : m ≤ h.length) (hok : okL xs) (hod : ∀ d, d ∈ od → d < xs.length) : ∀ (c P g : Nat) (σ : px_S) (b : Bool), P + c = od.length → c < g → RL σ xs → RO σ od → RRn σ xs on rn → gA σ 59 2 = bI b → ∃ σ', f_M_findSegments_79 F k7 g m (nI 2) (nI P) (mh m h σ) = f_M_findSegments_140 F k7 m (nI 2) (mh m h σ') ∧ gA σ' 59 2 = bI (b || (od.drop P).any (thc xs on rn)) ∧ (∀ j, j ≠ 2 → gA σ' 59 j = gA σ 59 j) ∧ FR [] [] [59] [] σ σ' := by
  intro c
  induction c with
  | zero =>
    intro P g σ b hP hg hr ho hc h59
    obtain ⟨g, rfl⟩ : ∃ x, g = x + 1 := ⟨g - 1, by omega⟩
    have hol := ho.2.1
    unfold f_M_findSegments_79
    rw [Mg48 hm, bs, ho.1, if_pos (nI_le (by omega) (by omega)), List.drop_eq_nil_of_le (by omega)]
    exact ⟨σ, rfl, by rw [h59, List.any_nil, Bool.or_false], fun _ _ => rfl, FR_refl σ⟩
  | succ c ih =>
    intro P g σ b hP hg hr ho hc h59
    obtain ⟨g, rfl⟩ : ∃ x, g = x + 1 := ⟨g - 1, by omega⟩
    have hol := ho.2.1
    have hPl : P < od.length := by omega
    have hx := List.getElem?_eq_getElem hPl
    rw [List.drop_eq_getElem_cons hPl, List.any_cons]
    have hn := hod _ (List.getElem_mem hPl)
    generalize od[P] = n at *
    have hxl : xs.length ≤ 4096 := by have := hr.1.2.1; rw [List.length_map] at this; exact this
    obtain ⟨x, hxn⟩ : ∃ x, xs[n]? = some x := ⟨xs[n], List.getElem?_eq_getElem hn⟩
    have hokx := hok n x hxn
    have fin : ∀ v : Bool, v = (b || thc xs on rn n) → ∃ σ', (((xsI (mh m h σ) 3 (m + 45) (nI 2) (bI v &&& 1)).bind fun ph1 => f_M_findSegments_79 F k7 g m (nI 2) (nI P + nI 1) ph1) = f_M_findSegments_140 F k7 m (nI 2) (mh m h σ')) ∧ gA σ' 59 2 = bI (b || (thc xs on rn n || (od.drop (P + 1)).any (thc xs on rn))) ∧ (∀ j, j ≠ 2 → gA σ' 59 j = gA σ 59 j) ∧ FR [] [] [59] [] σ σ' := by
      intro v hv
      rw [show bI v &&& 1 = bI v by cases v <;> rfl, Ms59 hm (by decide), bs, nI_add]
      have f1 := FR_A σ 59 (upd (gA σ 59) 2 (bI v))
      obtain ⟨σ2, b1, b2, b3, b4⟩ := ih (P + 1) g (sA σ 59 (upd (gA σ 59) 2 (bI v))) v (by omega) (by omega) (RL_FR hr f1 (by decide) (by decide) (by decide)) (RO_FR ho f1 (by decide) (by decide)) (RRn_FR hc f1 (by decide) (by decide)) (by show upd (gA σ 59) 2 (bI v) 2 = _; rw [upd_eq])
      refine ⟨σ2, b1, by rw [b2, hv, Bool.or_assoc], fun j hj => ?_, FR_trans f1 b4⟩
      rw [b3 j hj]
      show upd (gA σ 59) 2 (bI v) j = _
      rw [upd_ne hj]
    unfold f_M_findSegments_79 f_M_findSegments_132 f_M_findSegments_128 f_M_findSegments_133
    rw [Mg48 hm, bs, ho.1, if_neg (nI_ge (by omega) (by omega)), if_pos rfl, Mr59 hm, bs, bs, Ma59 hm (by decide), bs, h59]
    cases b with
    | true =>
      rw [if_neg (show ¬ bI true = 0 by decide)]
      exact fin true rfl
    | false =>
      rw [if_pos (show bI false = 0 from rfl), e_o hm, bs, q_isCommon hm hr hok ho hx hn hc, xb_mk]
      cases e : cB xs on rn n with
      | false =>
        rw [if_pos (show bI false = 0 from rfl)]
        exact fin false (by unfold thc; rw [e]; rfl)
      | true =>
        have h2 : x.2.1 = 2 := by
          unfold cB at e
          rw [Bool.and_eq_true, stN_at hxn] at e
          exact of_decide_eq_true e.1
        have hz : cmZ xs n = x.2.2.2.2.2.2.1 := by unfold cmZ; rw [getD_at hxn]
        have r26 := ((hr.2 n x hxn).2.2.2.2.2 h2).1
        rw [if_neg (show ¬ bI true = 0 by decide), Mr26 hm, bs, Mr49 hm, bs, Ma49 hm (by omega), bs, ho.2.2 P n hx, Ma26 hm (by omega), bs, r26]
        by_cases c2 : 0 < cmZ xs n
        · rw [hz] at c2
          rw [if_neg (show ¬ nI x.2.2.2.2.2.2.1 ≤ 0 from nI_ge (a := 0) c2 hokx.2.1)]
          exact fin true (by unfold thc; rw [e, hz, decide_eq_true c2]; rfl)
        · rw [hz] at c2
          rw [show x.2.2.2.2.2.2.1 = 0 by omega, if_pos (by decide)]
          exact fin false (by unfold thc; rw [e, hz, decide_eq_false c2]; rfl)
/-- what findSegments reads -/
def RWg (σ : px_S) (tq : Nat → Nat) (tb : Nat → Nat → Nat) (ll : List Nat) (xs : px_NL) (od : List Nat) (on : Bool) (rn : Nat → Bool) (ns : Nat) : Prop := RLa σ tq tb ll ∧ RL σ xs ∧ RO σ od ∧ RRn σ xs on rn ∧ gI σ 74 = nI ns
theorem RWg_FR {σ' : px_S} {I J A B : List Nat} {ns : Nat} (hh : RWg σ tq tb ll xs od on rn ns) (f : FR I J A B σ σ') (hI : ∀ k, k ∈ [20, 48, 50, 68, 74] → k ∉ I) (hA : ∀ k, k ∈ [21, 22, 23, 24, 25, 26, 27, 28, 49, 51, 52, 53, 54, 55, 56, 67, 73] → k ∉ A) (hB : 30 ∉ B) : RWg σ' tq tb ll xs od on rn ns :=
  ⟨RLa_FR hh.1 f (hI 50 (by decide)) (fun k hk => hA k (by revert k; decide)), RL_FR hh.2.1 f (hI 20 (by decide)) (fun k hk => hA k (by revert k; decide)) hB, RO_FR hh.2.2.1 f (hI 48 (by decide)) (hA 49 (by decide)), RRn_FR hh.2.2.2.1 f (hI 68 (by decide)) (hA 67 (by decide)), (f.1 74 (hI 74 (by decide))).trans hh.2.2.2.2⟩
theorem q_fSg_140 {b : Bool} {ns cnt0 : Nat} (hm : m ≤ h.length) (hs : s < 3) (hns : ns < 2 ^ 31) (h74 : gI σ 74 = nI ns) (h59 : gA σ 59 s = bI b) (h15 : gI σ 15 = nI cnt0) : ∃ σ', f_M_findSegments_140 F k7 m (nI s) (mh m h σ) = k7 m (nI (s + 1)) (mh m h σ') ∧ gA σ' 59 s = bI (b || (decide (s = 2) && decide (0 < ns))) ∧ gI σ' 15 = nI (cnt0 + (if (b || (decide (s = 2) && decide (0 < ns))) = true then 1 else 0)) ∧ (∀ j, j ≠ s → gA σ' 59 j = gA σ 59 j) ∧ FR [15] [] [59] [] σ σ' := by
  have fin : ∀ v : Bool, v = (b || (decide (s = 2) && decide (0 < ns))) → ∃ σ', f_M_findSegments_171 F k7 m (nI s) (m + 45) (nI s) (bI v) (mh m h σ) = k7 m (nI (s + 1)) (mh m h σ') ∧ gA σ' 59 s = bI (b || (decide (s = 2) && decide (0 < ns))) ∧ gI σ' 15 = nI (cnt0 + (if (b || (decide (s = 2) && decide (0 < ns))) = true then 1 else 0)) ∧ (∀ j, j ≠ s → gA σ' 59 j = gA σ 59 j) ∧ FR [15] [] [59] [] σ σ' := by
    intro v hv
    rw [← hv]
    unfold f_M_findSegments_171 f_M_findSegments_191
    rw [show bI v &&& 1 = bI v by cases v <;> rfl, Ms59 hm hs, bs, Mg15 hm, bs, gI_sA, h15, Mr59 hm, bs, Ma59 hm hs, bs, show gA (sA σ 59 (upd (gA σ 59) s (bI v))) 59 s = bI v from upd_eq]
    have fr : ∀ w, FR [15] [] [59] [] σ (sI (sA σ 59 (upd (gA σ 59) s (bI v))) 15 w) := fun w => FR_trans (FR_mono (FR_A σ 59 _) (by decide) (by decide) (by decide) (by decide)) (FR_mono (FR_I _ 15 _) (by decide) (by decide) (by decide) (by decide))
    cases v with
    | false =>
      rw [if_pos (show bI false = 0 from rfl), nI_add, Mp15 hm, bs, nI_add]
      exact ⟨sI (sA σ 59 (upd (gA σ 59) s (bI false))) 15 (nI (cnt0 + 0)), rfl, upd_eq, by rw [gI_sI, if_pos rfl]; rfl, fun j hj => upd_ne hj, fr _⟩
    | true =>
      rw [if_neg (show ¬ bI true = 0 by decide), nI_add, Mp15 hm, bs, nI_add]
      exact ⟨sI (sA σ 59 (upd (gA σ 59) s (bI true))) 15 (nI (cnt0 + 1)), rfl, upd_eq, by rw [gI_sI, if_pos rfl]; rfl, fun j hj => upd_ne hj, fr _⟩
  unfold f_M_findSegments_140 f_M_findSegments_166 f_M_findSegments_170
  rw [Mr59 hm, bs, bs, Ma59 hm hs, bs, h59, Mg74 hm, bs, h74]
  cases b with
  | true =>
    rw [if_neg (show ¬ bI true = 0 by decide)]
    exact fin true rfl
  | false =>
    rw [if_pos (show bI false = 0 from rfl)]
    by_cases c1 : s = 2
    · rw [if_pos (by rw [c1])]
      by_cases c2 : 0 < ns
      · rw [if_neg (show ¬ nI ns ≤ 0 from nI_ge (a := 0) c2 hns)]
        exact fin true (by rw [decide_eq_true c1, decide_eq_true c2]; rfl)
      · rw [if_pos (show nI ns ≤ 0 by rw [show ns = 0 by omega]; decide)]
        exact fin false (by rw [decide_eq_false c2, Bool.and_false]; rfl)
    · rw [if_neg (fun q => c1 ((nI_eq (by omega) (by decide)).mp q))]
      exact fin false (by rw [decide_eq_false c1]; rfl)
/-- how many of the first s segments are there -/
def sgN (th : Nat → Bool) : Nat → Nat
  | 0 => 0
  | s + 1 => sgN th s + (if th s = true then 1 else 0)
theorem sgN_le {th : Nat → Bool} : ∀ s, sgN th s ≤ s := by
  intro s
  induction s with
  | zero => exact Nat.le_refl _
  | succ s ih => show sgN th s + _ ≤ _; split <;> omega
theorem q_fSg_7 {ns : Nat} (hm : m ≤ h.length) (hF : 65536 < F) (hl : llP T tb ll) (hZ : ∀ x, x ∈ ll → zS tb x < 2 ^ 31) (hok : okL xs) (hod : ∀ d, d ∈ od → d < xs.length) (hns : ns < 2 ^ 31) : ∀ (c s g : Nat) (σ : px_S), s + c = 3 → c < g → RWg σ tq tb ll xs od on rn ns → gI σ 15 = nI (sgN (thS tb ll xs od on rn ns) s) → (∀ j, j < s → gA σ 59 j = bI (thS tb ll xs od on rn ns j)) → ∃ σ', f_M_findSegments_7 F g m (nI s) (mh m h σ) = some ((), mh m h σ') ∧ gI σ' 15 = nI (sgN (thS tb ll xs od on rn ns) 3) ∧ (∀ j, j < 3 → gA σ' 59 j = bI (thS tb ll xs od on rn ns j)) ∧ FR [15] [] [59] [] σ σ' := by
  intro c
  induction c with
  | zero =>
    intro s g σ hs hg hR h15 h59
    obtain ⟨g, rfl⟩ : ∃ x, g = x + 1 := ⟨g - 1, by omega⟩
    have e : s = 3 := by omega
    rw [e] at h15 h59 ⊢
    unfold f_M_findSegments_7 f_M_findSegments_201
    rw [if_pos (by decide)]
    exact ⟨σ, rfl, h15, h59, FR_refl σ⟩
  | succ c ih =>
    intro s g σ hs hg hR h15 h59
    obtain ⟨g, rfl⟩ : ∃ x, g = x + 1 := ⟨g - 1, by omega⟩
    have hs3 : s < 3 := by omega
    have hl1 := hl.1
    have f1 := FR_A σ 59 (upd (gA σ 59) s (bI false))
    have hR1 := RWg_FR hR f1 (by decide) (by decide) (by decide)
    obtain ⟨σ2, a1, a2, a3, a4⟩ := q_fSg_21 (F := F) (h := h) (k7 := f_M_findSegments_7 F g) (tq := tq) hm hs3 hl hZ ll.length 0 F (sA σ 59 (upd (gA σ 59) s (bI false))) false (by omega) (by omega) hR1.1 upd_eq
    rw [List.drop_zero, Bool.false_or] at a2
    have hR2 := RWg_FR hR1 a4 (by decide) (by decide) (by decide)
    have e79 : ∃ σ3 b3, f_M_findSegments_77 F (f_M_findSegments_7 F g) m (nI s) (mh m h σ2) = f_M_findSegments_140 F (f_M_findSegments_7 F g) m (nI s) (mh m h σ3) ∧ gA σ3 59 s = bI b3 ∧ (b3 || (decide (s = 2) && decide (0 < ns))) = thS tb ll xs od on rn ns s ∧ (∀ j, j ≠ s → gA σ3 59 j = gA σ2 59 j) ∧ FR [] [] [59] [] σ2 σ3 := by
      unfold f_M_findSegments_77
      by_cases c2 : s = 2
      · have hol := hR.2.2.1.2.1
        rw [c2] at a2 ⊢
        obtain ⟨σ3, d1, d2, d3, d4⟩ := q_fSg_79 (F := F) (h := h) (k7 := f_M_findSegments_7 F g) (on := on) (rn := rn) hm hok hod od.length 0 F σ2 _ (by omega) (by omega) hR2.2.1 hR2.2.2.1 hR2.2.2.2.1 a2
        rw [List.drop_zero] at d2
        exact ⟨σ3, _, d1, d2, by unfold thS; rw [decide_eq_true rfl, Bool.true_and, Bool.true_and, Bool.or_assoc], d3, d4⟩
      · refine ⟨σ2, _, ?_, a2, by unfold thS; rw [decide_eq_false c2, Bool.false_and, Bool.false_and], fun _ _ => rfl, FR_refl σ2⟩
        obtain ⟨F1, hF1⟩ : ∃ x, F = x + 1 := ⟨F - 1, by omega⟩
        rw [show f_M_findSegments_79 F (f_M_findSegments_7 F g) F m = f_M_findSegments_79 F (f_M_findSegments_7 F g) (F1 + 1) m by rw [← hF1]]
        unfold f_M_findSegments_79
        rw [Mg48 hm, bs, if_neg (show ¬ nI s = nI 2 from fun q => c2 ((nI_eq (by omega) (by decide)).mp q))]
        split <;> rfl
    obtain ⟨σ3, b3, d1, d2, d3, d4, d5⟩ := e79
    have hR3 := RWg_FR hR2 d5 (by decide) (by decide) (by decide)
    have i15 : gI σ3 15 = nI (sgN (thS tb ll xs od on rn ns) s) := by rw [d5.1 15 (by decide), a4.1 15 (by decide), f1.1 15 (by decide)]; exact h15
    obtain ⟨σ4, g1, g2, g3, g4, g5⟩ := q_fSg_140 (F := F) (h := h) (k7 := f_M_findSegments_7 F g) hm hs3 hns hR3.2.2.2.2 d2 i15
    rw [d3] at g2 g3
    have f4 : FR [15] [] [59] [] σ σ4 := FR_trans (FR_mono f1 (by decide) (by decide) (by decide) (by decide)) (FR_trans (FR_mono a4 (by decide) (by decide) (by decide) (by decide)) (FR_trans (FR_mono d5 (by decide) (by decide) (by decide) (by decide)) g5))
    obtain ⟨σ5, k1, k2, k3, k4⟩ := ih (s + 1) g σ4 (by omega) (by omega) (RWg_FR hR f4 (by decide) (by decide) (by decide)) g3 (fun j hj => by
      by_cases e : j = s
      · rw [e]; exact g2
      · rw [g4 j e, d4 j e, a3 j e]
        show upd (gA σ 59) s (bI false) j = _
        rw [upd_ne e]; exact h59 j (by omega))
    refine ⟨σ5, ?_, k2, k3, FR_trans f4 k4⟩
    unfold f_M_findSegments_7
    rw [if_neg (nI_ge (by omega) (by omega)), Mr59 hm, bs, show nI 0 &&& 1 = bI false from rfl, Ms59 hm hs3, bs, a1, d1, g1, k1]
theorem q_findSegments {ns : Nat} (hm : m ≤ h.length) (hF : 65536 < F) (hl : llP T tb ll) (hZ : ∀ x, x ∈ ll → zS tb x < 2 ^ 31) (hok : okL xs) (hod : ∀ d, d ∈ od → d < xs.length) (hns : ns < 2 ^ 31) (hR : RWg σ tq tb ll xs od on rn ns) : ∃ σ', f_M_findSegments F m (mh m h σ) = some ((), mh m h σ') ∧ gI σ' 15 = nI (sgN (thS tb ll xs od on rn ns) 3) ∧ (∀ j, j < 3 → gA σ' 59 j = bI (thS tb ll xs od on rn ns j)) ∧ FR [15] [] [59] [] σ σ' := by
  have f1 := FR_I σ 15 (nI 0)
  obtain ⟨σ', a1, a2, a3, a4⟩ := q_fSg_7 (F := F) (h := h) hm hF hl hZ hok hod hns 3 0 F (sI σ 15 (nI 0)) (by omega) (by omega) (RWg_FR hR f1 (by decide) (by decide) (by decide)) (by rw [gI_sI, if_pos rfl]; rfl) (fun j hj => absurd hj (Nat.not_lt_zero j))
  refine ⟨σ', ?_, a2, a3, FR_trans (FR_mono f1 (by decide) (by decide) (by decide) (by decide)) a4⟩
  unfold f_M_findSegments
  rw [Mp15 hm, bs, a1]
def thr1 (tb : Nat → Nat → Nat) (x : Nat) : Bool := decide (3 < oG (tb (x / 24)) (x % 24)) && decide (0 < zS tb x)
theorem q_isThreaded_4 (hm : m ≤ h.length) (hl : llP T tb ll) (hZ : ∀ x, x ∈ ll → zS tb x < 2 ^ 31) (hL : RLa σ tq tb ll) : ∀ (c P g : Nat) (b : Bool), P + c = ll.length → c < g → f_M_isThreaded_4 F g m (bI b) (nI P) (mh m h σ) = some (bI (b || (ll.drop P).any (thr1 tb)), mh m h σ) := by
  have hl1 := hl.1
  intro c
  induction c with
  | zero =>
    intro P g b hP hg
    obtain ⟨g, rfl⟩ : ∃ x, g = x + 1 := ⟨g - 1, by omega⟩
    unfold f_M_isThreaded_4 f_M_isThreaded_47
    rw [Mg50 hm, bs, hL.1, if_pos (nI_le (by omega) (by omega)), List.drop_eq_nil_of_le (by omega), List.any_nil, Bool.or_false]
    cases b with
    | false => rw [show bI false = nI 0 from rfl, xz_0] <;> rfl
    | true => rw [show bI true = nI 1 from rfl, xz_1] <;> rfl
  | succ c ih =>
    intro P g b hP hg
    obtain ⟨g, rfl⟩ : ∃ x, g = x + 1 := ⟨g - 1, by omega⟩
    have hPl : P < ll.length := by omega
    have hx := List.getElem?_eq_getElem hPl
    rw [List.drop_eq_getElem_cons hPl, List.any_cons]
    have hx2 := hZ _ (List.getElem_mem hPl)
    generalize ll[P] = x at *
    obtain ⟨r1, r2, r3, r4, r5, r6⟩ := hL.2 P x hx
    have hG : oG (tb (x / 24)) (x % 24) ≤ 5 := by unfold oG; repeat (first | omega | split)
    have fin : ∀ v : Bool, v = (b || thr1 tb x) → f_M_isThreaded_4 F g m (bI v) (nI (P + 1)) (mh m h σ) = some (bI (b || (thr1 tb x || (ll.drop (P + 1)).any (thr1 tb))), mh m h σ) := fun v hv => by rw [ih (P + 1) g v (by omega) (by omega), hv, Bool.or_assoc]
    unfold f_M_isThreaded_4 f_M_isThreaded_39 f_M_isThreaded_35 f_M_isThreaded_40
    rw [Mg50 hm, bs, hL.1, if_neg (nI_ge (by omega) (by omega)), nI_add]
    cases b with
    | true =>
      rw [if_neg (show ¬ bI true = 0 by decide)]
      exact fin true rfl
    | false =>
      rw [if_pos (show bI false = 0 from rfl), Mr55 hm, bs, Ma55 hm (by omega), bs, r5]
      by_cases c1 : 3 < oG (tb (x / 24)) (x % 24)
      · rw [if_neg (nI_ge (by omega) (by omega)), Mr56 hm, bs, Ma56 hm (by omega), bs, r6]
        by_cases c2 : 0 < zS tb x
        · rw [if_neg (show ¬ nI (oZ (tb (x / 24)) (x % 24)) ≤ 0 from nI_ge (a := 0) c2 hx2)]
          exact fin true (by unfold thr1; rw [decide_eq_true c1, decide_eq_true c2]; rfl)
        · have : oZ (tb (x / 24)) (x % 24) = 0 := Nat.eq_zero_of_not_pos c2
          rw [this, if_pos (by decide)]
          exact fin false (by unfold thr1; rw [decide_eq_false c2, Bool.and_false]; rfl)
      · rw [if_pos (nI_le (by omega) (by omega))]
        exact fin false (by unfold thr1; rw [decide_eq_false c1]; rfl)
theorem q_isThreaded (hm : m ≤ h.length) (hF : 65536 < F) (hl : llP T tb ll) (hZ : ∀ x, x ∈ ll → zS tb x < 2 ^ 31) (hL : RLa σ tq tb ll) : f_M_isThreaded F m (mh m h σ) = some (bI (ll.any (thr1 tb)), mh m h σ) := by
  have hl1 := hl.1
  have := q_isThreaded_4 (F := F) (h := h) hm hl hZ hL ll.length 0 F false (by omega) (by omega)
  rw [List.drop_zero, Bool.false_or] at this
  exact this
end MSG
