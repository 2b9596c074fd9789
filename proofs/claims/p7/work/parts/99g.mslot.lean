/-! slotOf, findSlots of the reference -/
def nmZ (tb : Nat → Nat → Nat) (xs : px_NL) (z : Nat) : Option Nat := if z / 2 % 64 = 0 ∨ yB (tb (z / 2 / 64)) (z / 2 % 64) = 0 then none else some (plc (yT (tb (z / 2 / 64)) (z / 2 % 64)) (xs.map Prod.fst))
/-- one slot serves both -/
def skE (tb : Nat → Nat → Nat) (xs : px_NL) (z y : Nat) : Bool := decide (y % 2 = z % 2) && (decide (nmZ tb xs y = nmZ tb xs z) && ((nmZ tb xs z).isSome || decide (y / 2 = z / 2)))
def ixB (p : Nat → Bool) : Nat → List Nat → Option Nat
  | _, [] => none
  | k, y :: l => if p y = true then some k else ixB p (k + 1) l
theorem ixB_s {p : Nat → Bool} {k y : Nat} {l : List Nat} : ixB p k (y :: l) = if p y = true then some k else ixB p (k + 1) l := rfl
theorem ixB_lt {p : Nat → Bool} : ∀ {l : List Nat} {k i : Nat}, ixB p k l = some i → k ≤ i ∧ i < k + l.length ∧ ∃ y, l[i - k]? = some y ∧ p y = true := by
  intro l
  induction l with
  | nil => intro k i h; exact nomatch h
  | cons y l ih =>
    intro k i h
    rw [ixB_s] at h
    by_cases c : p y = true
    · rw [if_pos c] at h
      have := Option.some.inj h
      rw [List.length_cons]
      refine ⟨by omega, by omega, y, ?_, c⟩
      rw [show i - k = 0 by omega]; rfl
    · rw [if_neg c] at h
      obtain ⟨h1, h2, z, h3, h4⟩ := ih h
      rw [List.length_cons]
      refine ⟨by omega, by omega, z, ?_, h4⟩
      rw [show i - k = (i - (k + 1)) + 1 by omega]; exact h3
theorem ixB_none {p : Nat → Bool} : ∀ {l : List Nat} {k : Nat}, ixB p k l = none → ∀ y, y ∈ l → p y = false := by
  intro l
  induction l with
  | nil => intro k h y hy; exact absurd hy List.not_mem_nil
  | cons x l ih =>
    intro k h y hy
    rw [ixB_s] at h
    by_cases c : p x = true
    · rw [if_pos c] at h; cases h
    · rw [if_neg c] at h
      rcases List.mem_cons.mp hy with e | e
      · rw [e]; exact Bool.eq_false_iff.mpr c
      · exact ih h y e
def sl1 (tb : Nat → Nat → Nat) (xs : px_NL) (z : Nat) (sl : List Nat) : List Nat := if (ixB (skE tb xs z) 0 sl).isSome = true then sl else sl ++ [z]
theorem skE_refl {tb : Nat → Nat → Nat} {xs : px_NL} {z : Nat} : skE tb xs z z = true := by
  unfold skE
  rw [decide_eq_true rfl, decide_eq_true rfl, decide_eq_true rfl, Bool.or_true]; rfl
def SLI (T : Nat) (tb : Nat → Nat → Nat) (sl : List Nat) : Prop := sl.Nodup ∧ ∀ z, z ∈ sl → z / 2 / 64 < T ∧ z / 2 % 64 < oM (tb (z / 2 / 64))
/-- the slots have room -/
def SLN (T : Nat) (tb : Nat → Nat → Nat) : Prop := ∀ l, SLI T tb l → l.length ≤ 2800
theorem SLI_1 {T : Nat} {tb : Nat → Nat → Nat} {xs : px_NL} {sl : List Nat} {z : Nat} (h : SLI T tb sl) (hz : z / 2 / 64 < T ∧ z / 2 % 64 < oM (tb (z / 2 / 64))) : SLI T tb (sl1 tb xs z sl) ∧ (ixB (skE tb xs z) 0 sl = none → SLI T tb (sl ++ [z])) := by
  have h2 : ixB (skE tb xs z) 0 sl = none → SLI T tb (sl ++ [z]) := fun e => by
    refine ⟨?_, fun y hy => ?_⟩
    · rw [List.nodup_append]
      exact ⟨h.1, List.nodup_cons.mpr ⟨List.not_mem_nil, List.nodup_nil⟩, fun x hx y hy e2 => by
        rw [List.mem_singleton.mp hy] at e2
        have := ixB_none e x hx
        rw [e2, skE_refl] at this
        cases this⟩
    · rcases List.mem_append.mp hy with hy | hy
      · exact h.2 y hy
      · rw [List.mem_singleton.mp hy]; exact hz
  refine ⟨?_, h2⟩
  unfold sl1
  cases e : ixB (skE tb xs z) 0 sl with
  | none => rw [if_neg (by decide)]; exact h2 e
  | some i => rw [if_pos (show (some i).isSome = true from rfl)]; exact h
def RSr (tb : Nat → Nat → Nat) (xs : px_NL) (σ : px_S) (p z : Nat) : Prop := gA σ 78 p = bI (decide (z % 2 = 1)) ∧ gA σ 75 p = tdA (nmZ tb xs z) ∧ gA σ 76 p = nI (z / 2 / 64) ∧ gA σ 77 p = nI (z / 2 % 64)
def RSl (tb : Nat → Nat → Nat) (xs : px_NL) (σ : px_S) (sl : List Nat) : Prop := gI σ 74 = nI sl.length ∧ ∀ p z, sl[p]? = some z → RSr tb xs σ p z
abbrev slA : List Nat := [75, 76, 77, 78]
theorem bI_eq {a b : Bool} : bI a = bI b ↔ a = b := by cases a <;> cases b <;> decide
theorem tdA_eq {a b : Option Nat} (ha : ∀ x, a = some x → x < 2 ^ 31) (hb : ∀ x, b = some x → x < 2 ^ 31) : tdA a = tdA b ↔ a = b := by
  constructor
  · intro e
    cases a with
    | none =>
      cases b with
      | none => rfl
      | some y =>
        have h1 : Int32.ofInt (-1) = nI y := e
        have h2 := nI_0le (hb y rfl)
        rw [← h1] at h2
        exact absurd h2 (by decide)
    | some x =>
      cases b with
      | none =>
        have h1 : nI x = Int32.ofInt (-1) := e
        have h2 := nI_0le (ha x rfl)
        rw [h1] at h2
        exact absurd h2 (by decide)
      | some y =>
        have h1 : nI x = nI y := e
        rw [(nI_eq (ha x rfl) (hb y rfl)).mp h1]
  · intro e; rw [e]
section MSL
variable {F m T t k : Nat} {h : px_H} {σ : px_S} {dr : Nat → Bool} {tb : Nat → Nat → Nat} {tO tn : Nat → Nat} {xs : px_NL} {sl : List Nat}
theorem q_slotOf_48 (hm : m ≤ h.length) (hT : T ≤ 64) (hN : SLN T tb) {z : Nat} {nm : Option Nat} (hnm : nmZ tb xs z = nm) (hz : z / 2 / 64 < T) (hxl : ∀ y x, nmZ tb xs y = some x → x < 2 ^ 31) (hs : RSl tb xs σ sl) (hI : SLI T tb sl) : ∀ (c p g : Nat), p + c = sl.length → c < g → f_M_slotOf_48 F g m (nI (z / 2 / 64)) (nI (z / 2 % 64)) (bI (decide (z % 2 = 1))) (tdA nm) (nI p) (mh m h σ) = match ixB (skE tb xs z) p (sl.drop p) with
    | some i => some (nI i, mh m h σ)
    | none => f_M_slotOf_116 F m (nI (z / 2 / 64)) (nI (z / 2 % 64)) (bI (decide (z % 2 = 1))) (tdA nm) (mh m h σ) := by
  have hl := hN sl hI
  intro c
  induction c with
  | zero =>
    intro p g hp hg
    obtain ⟨g, rfl⟩ : ∃ x, g = x + 1 := ⟨g - 1, by omega⟩
    unfold f_M_slotOf_48
    rw [Mg74 hm, bs, hs.1, if_pos (nI_le (by omega) (by omega)), List.drop_eq_nil_of_le (by omega)]
    rfl
  | succ c ih =>
    intro p g hp hg
    obtain ⟨g, rfl⟩ : ∃ x, g = x + 1 := ⟨g - 1, by omega⟩
    have hpl : p < sl.length := by omega
    have hy : sl[p]? = some sl[p] := List.getElem?_eq_getElem hpl
    rw [List.drop_eq_getElem_cons hpl, ixB_s]
    have hr := hs.2 p _ hy
    have hyI := hI.2 _ (List.getElem_mem hpl)
    generalize sl[p] = y at *
    obtain ⟨r1, r2, r3, r4⟩ := hr
    have ih := ih (p + 1) g (by omega) (by omega)
    unfold f_M_slotOf_48 f_M_slotOf_110 f_M_slotOf_107
    rw [Mg74 hm, bs, hs.1, if_neg (nI_ge (by omega) (by omega)), Mr78 hm, bs, Ma78 hm (by omega), bs, r1, nI_add, ih, Mr75 hm, bs, Ma75 hm (by omega), bs, r2, Mr76 hm, bs, Ma76 hm (by omega), bs, r3, Mr77 hm, bs, Ma77 hm (by omega), bs, r4]
    have nx : skE tb xs z y = false → (match (if skE tb xs z y = true then some p else ixB (skE tb xs z) (p + 1) (List.drop (p + 1) sl)) with
      | some i => some (nI i, mh m h σ)
      | none => f_M_slotOf_116 F m (nI (z / 2 / 64)) (nI (z / 2 % 64)) (bI (decide (z % 2 = 1))) (tdA nm) (mh m h σ)) = (match ixB (skE tb xs z) (p + 1) (List.drop (p + 1) sl) with
      | some i => some (nI i, mh m h σ)
      | none => f_M_slotOf_116 F m (nI (z / 2 / 64)) (nI (z / 2 % 64)) (bI (decide (z % 2 = 1))) (tdA nm) (mh m h σ)) := fun e => by rw [e, if_neg (by decide)]
    have yes : skE tb xs z y = true → (match (if skE tb xs z y = true then some p else ixB (skE tb xs z) (p + 1) (List.drop (p + 1) sl)) with
      | some i => some (nI i, mh m h σ)
      | none => f_M_slotOf_116 F m (nI (z / 2 / 64)) (nI (z / 2 % 64)) (bI (decide (z % 2 = 1))) (tdA nm) (mh m h σ)) = some (nI p, mh m h σ) := fun e => by rw [e, if_pos rfl]
    have es : skE tb xs z y = (decide (y % 2 = z % 2) && (decide (nmZ tb xs y = nm) && (nm.isSome || decide (y / 2 = z / 2)))) := by unfold skE; rw [hnm]
    by_cases c1 : y % 2 = z % 2
    · rw [if_pos (by rw [c1])]
      by_cases c2 : nmZ tb xs y = nm
      · rw [if_pos (by rw [c2])]
        cases nm with
        | some x =>
          rw [if_pos (show (0 : Int32) ≤ tdA (some x) from nI_0le (hxl z x hnm)), yes (by rw [es, decide_eq_true c1, decide_eq_true c2]; rfl)]
        | none =>
          rw [if_neg (show ¬ (0 : Int32) ≤ tdA none by decide)]
          by_cases c3 : y / 2 = z / 2
          · rw [if_pos (by rw [c3]), if_pos (by rw [c3]), yes (by rw [es, decide_eq_true c1, decide_eq_true c2, decide_eq_true c3]; rfl)]
          · have c4 : ¬ (y / 2 / 64 = z / 2 / 64 ∧ y / 2 % 64 = z / 2 % 64) := by omega
            rw [nx (by rw [es, decide_eq_true c1, decide_eq_true c2, decide_eq_false c3]; rfl)]
            by_cases c5 : y / 2 / 64 = z / 2 / 64
            · rw [if_pos (by rw [c5]), if_neg (fun q => c4 ⟨c5, (nI_eq (by omega) (by omega)).mp q⟩)]
            · rw [if_neg (fun q => c5 ((nI_eq (by omega) (by omega)).mp q))]
      · rw [if_neg (fun q => c2 ((tdA_eq (hxl y) (fun x hx => hxl z x (hnm.trans hx))).mp q)), nx (by rw [es, decide_eq_false c2, Bool.false_and, Bool.and_false])]
    · rw [if_neg (fun q => c1 (by have := decide_eq_decide.mp (bI_eq.mp q); omega)), nx (by rw [es, decide_eq_false c1, Bool.false_and])]
theorem q_slotOf_116 (hm : m ≤ h.length) {z : Nat} (hl : sl.length < 2800) (hs : RSl tb xs σ sl) : ∃ σ', f_M_slotOf_116 F m (nI (z / 2 / 64)) (nI (z / 2 % 64)) (bI (decide (z % 2 = 1))) (tdA (nmZ tb xs z)) (mh m h σ) = some (nI sl.length, mh m h σ') ∧ RSl tb xs σ' sl ∧ RSr tb xs σ' sl.length z ∧ FR [] [] slA [] σ σ' := by
  obtain ⟨σ1, hσ1⟩ : ∃ x, x = sA σ 78 (upd (gA σ 78) sl.length (bI (decide (z % 2 = 1)))) := ⟨_, rfl⟩
  have f1 : FR [] [] [78] [] σ σ1 := by rw [hσ1]; exact FR_A σ 78 _
  obtain ⟨σ2, hσ2⟩ : ∃ x, x = sA σ1 75 (upd (gA σ1 75) sl.length (tdA (nmZ tb xs z))) := ⟨_, rfl⟩
  have f2 : FR [] [] [75] [] σ1 σ2 := by rw [hσ2]; exact FR_A σ1 75 _
  obtain ⟨σ3, hσ3⟩ : ∃ x, x = sA σ2 76 (upd (gA σ2 76) sl.length (nI (z / 2 / 64))) := ⟨_, rfl⟩
  have f3 : FR [] [] [76] [] σ2 σ3 := by rw [hσ3]; exact FR_A σ2 76 _
  obtain ⟨σ4, hσ4⟩ : ∃ x, x = sA σ3 77 (upd (gA σ3 77) sl.length (nI (z / 2 % 64))) := ⟨_, rfl⟩
  have f4 : FR [] [] [77] [] σ3 σ4 := by rw [hσ4]; exact FR_A σ3 77 _
  have i0 := hs.1
  have i1 : gI σ1 74 = nI sl.length := (f1.1 74 (by decide)).trans i0
  have i2 : gI σ2 74 = nI sl.length := (f2.1 74 (by decide)).trans i1
  have i3 : gI σ3 74 = nI sl.length := (f3.1 74 (by decide)).trans i2
  have i4 : gI σ4 74 = nI sl.length := (f4.1 74 (by decide)).trans i3
  have g78 : gA σ4 78 = upd (gA σ 78) sl.length (bI (decide (z % 2 = 1))) := by rw [f4.2.2.1 78 (by decide), f3.2.2.1 78 (by decide), f2.2.2.1 78 (by decide), hσ1, gA_sA, if_pos rfl]
  have g75 : gA σ4 75 = upd (gA σ 75) sl.length (tdA (nmZ tb xs z)) := by rw [f4.2.2.1 75 (by decide), f3.2.2.1 75 (by decide), hσ2, gA_sA, if_pos rfl, f1.2.2.1 75 (by decide)]
  have g76 : gA σ4 76 = upd (gA σ 76) sl.length (nI (z / 2 / 64)) := by rw [f4.2.2.1 76 (by decide), hσ3, gA_sA, if_pos rfl, f2.2.2.1 76 (by decide), f1.2.2.1 76 (by decide)]
  have g77 : gA σ4 77 = upd (gA σ 77) sl.length (nI (z / 2 % 64)) := by rw [hσ4, gA_sA, if_pos rfl, f3.2.2.1 77 (by decide), f2.2.2.1 77 (by decide), f1.2.2.1 77 (by decide)]
  refine ⟨σ4, ?_, ⟨i4, fun p y hy => ?_⟩, ?_, FR_trans (FR_mono f1 (by decide) (by decide) (by decide) (by decide)) (FR_trans (FR_mono f2 (by decide) (by decide) (by decide) (by decide)) (FR_trans (FR_mono f3 (by decide) (by decide) (by decide) (by decide)) (FR_mono f4 (by decide) (by decide) (by decide) (by decide))))⟩
  · unfold f_M_slotOf_116
    rw [Mr78 hm, bs, Mg74 hm, bs, i0, show bI (decide (z % 2 = 1)) &&& 1 = bI (decide (z % 2 = 1)) by cases decide (z % 2 = 1) <;> rfl, Ms78 hm hl, bs, ← hσ1, Mr75 hm, bs, Mg74 hm, bs, i1, Ms75 hm hl, bs, ← hσ2, Mr76 hm, bs, Mg74 hm, bs, i2, Ms76 hm hl, bs, ← hσ3, Mr77 hm, bs, Mg74 hm, bs, i3, Ms77 hm hl, bs, ← hσ4, Mg74 hm, bs, i4]
  · have := (List.getElem?_eq_some_iff.mp hy).1
    unfold RSr
    rw [g78, g75, g76, g77, upd_ne (by omega), upd_ne (by omega), upd_ne (by omega), upd_ne (by omega)]
    exact hs.2 p y hy
  · unfold RSr
    rw [g78, g75, g76, g77, upd_eq, upd_eq, upd_eq, upd_eq]
    exact ⟨rfl, rfl, rfl, rfl⟩
theorem nmZ_lt (hW : WP T tb dr xs) (hR : RWd σ T tO tn tb dr xs) (y x : Nat) (h : nmZ tb xs y = some x) : x < 2 ^ 31 := by
  have hxl : xs.length ≤ 4096 := by have := hR.2.2.1.2.1; rw [List.length_map] at this; exact this
  unfold nmZ at h
  split at h
  · cases h
  · have := Option.some.inj h
    have h2 : ∀ w, plc w (xs.map Prod.fst) ≤ xs.length := by
      intro w
      unfold plc
      cases e : idx w 0 (xs.map Prod.fst) with
      | none => show (xs.map Prod.fst).length ≤ _; rw [List.length_map]; exact Nat.le_refl _
      | some i =>
        have := idx_lt e
        rw [List.length_map] at this
        show i ≤ _
        omega
    have := h2 (yT (tb (y / 2 / 64)) (y / 2 % 64))
    omega
theorem q_slotOf (hm : m ≤ h.length) (hF : 65536 < F) (hN : SLN T tb) (hW : WP T tb dr xs) (hR : RWd σ T tO tn tb dr xs) {z : Nat} (hz : z / 2 / 64 < T ∧ z / 2 % 64 < oM (tb (z / 2 / 64))) (hs : RSl tb xs σ sl) (hI : SLI T tb sl) : ∃ σ', f_M_slotOf F m (nI (z / 2 / 64)) (nI (z / 2 % 64)) (bI (decide (z % 2 = 1))) (mh m h σ) = some (nI ((ixB (skE tb xs z) 0 sl).getD sl.length), mh m h σ') ∧ RSl tb xs σ' sl ∧ (ixB (skE tb xs z) 0 sl = none → RSr tb xs σ' sl.length z) ∧ ((ixB (skE tb xs z) 0 sl).isSome = true → σ' = σ) ∧ FR [] [] slA [] σ σ' := by
  have hb := hR.1 _ hz.1
  have hM := w2_M (OB_w hb)
  have hB16 := OB_yB (k := z / 2 % 64) hb
  have e48 := q_slotOf_48 (F := F) hm hW.1 hN (nm := nmZ tb xs z) rfl hz.1 (nmZ_lt hW hR) hs hI sl.length 0 F (by omega) (by have := hN sl hI; omega)
  have e0 : f_M_slotOf F m (nI (z / 2 / 64)) (nI (z / 2 % 64)) (bI (decide (z % 2 = 1))) (mh m h σ) = f_M_slotOf_48 F F m (nI (z / 2 / 64)) (nI (z / 2 % 64)) (bI (decide (z % 2 = 1))) (tdA (nmZ tb xs z)) (nI 0) (mh m h σ) := by
    unfold f_M_slotOf f_M_slotOf_17 f_M_slotOf_22 f_M_slotOf_43 nmZ
    generalize z / 2 / 64 = t at *
    generalize z / 2 % 64 = k at *
    by_cases c0 : k = 0
    · rw [if_pos (by rw [c0]; rfl), if_neg (show ¬ nI 1 = 0 by decide), if_pos (Or.inl c0)]; rfl
    · rw [if_neg (show ¬ nI k = 0 from fun q => c0 ((nI_eq (b := 0) (by omega) (by decide)).mp q)), e_o hm, bs, O_obj hm hb, xb_mk, e_o hm, bs, O_bind hm (by omega) hb hz.2, xb_mk]
      by_cases c1 : yB (tb t) k = 0
      · rw [if_pos (by rw [c1]; rfl), if_neg (show ¬ nI 1 = 0 by decide), if_pos (Or.inr c1)]; rfl
      · obtain ⟨x, x1, x2, x3⟩ := plc_ix (hW.2.2.2.1 t k hz.1 (by omega) hz.2 c1)
        rw [if_neg (show ¬ nI (yB (tb t) k) = 0 from fun q => c1 ((nI_eq (b := 0) (by omega) (by decide)).mp q)), if_pos (show nI 0 = 0 from rfl), e_o hm, bs, O_obj hm hb, xb_mk, e_o hm, bs, O_name hm (by omega) hb hR.2.2 (by omega) hz.2 c1, xb_mk, x3, if_neg (fun q => q.elim c0 c1)]
  rw [e0, e48, List.drop_zero]
  cases e : ixB (skE tb xs z) 0 sl with
  | some i => exact ⟨σ, rfl, hs, fun q => (nomatch q), fun _ => rfl, FR_refl σ⟩
  | none =>
    have hl : sl.length < 2800 := by
      have := hN _ ((SLI_1 (xs := xs) hI hz).2 e)
      rw [List.length_append] at this
      have : sl.length + 1 ≤ 2800 := this
      omega
    obtain ⟨σ', a1, a2, a3, a4⟩ := q_slotOf_116 (F := F) (z := z) hm hl hs
    exact ⟨σ', a1, a2, fun _ => a3, fun q => (nomatch q), a4⟩
end MSL
