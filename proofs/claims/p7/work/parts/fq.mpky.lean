/-! the reference packs: which objects, what is answered (steps spelled out by sf/pp.py) -/
/-- the q-th place has an object -/
def isOb (fs : px_FS) (q : Nat) : Bool := match obAt fs q with
  | none => false
  | some y => !y.2.2.2
def obV (fs : px_FS) (q : Nat) : Nat × Nat × (Nat → Nat) × Bool := (obAt fs q).getD (0, 0, (fun _ => 0), false)
/-- the objects ahead of the e-th place, in order -/
def obL (fs : px_FS) : Nat → List Nat
  | 0 => []
  | e + 1 => if isOb fs e = true then obL fs e ++ [e] else obL fs e
theorem isOb_t {fs : px_FS} {q : Nat} (h : isOb fs q = true) : ∃ o n b, obAt fs q = some (o, n, b, false) ∧ obV fs q = (o, n, b, false) := by
  unfold isOb at h
  unfold obV
  cases e : obAt fs q with
  | none => rw [e] at h; cases h
  | some y =>
    obtain ⟨o, n, b, z⟩ := y
    rw [e] at h
    cases z with
    | true => cases h
    | false => exact ⟨o, n, b, rfl, rfl⟩
theorem isOb_o {fs : px_FS} {q o n : Nat} {b : Nat → Nat} {z : Bool} (h : obAt fs q = some (o, n, b, z)) : isOb fs q = !z := by
  unfold isOb
  rw [h]
theorem isOb_n {fs : px_FS} {q : Nat} (h : obAt fs q = none) : isOb fs q = false := by
  unfold isOb
  rw [h]
theorem obL_len (fs : px_FS) : ∀ e, (obL fs e).length ≤ e := by
  intro e
  induction e with
  | zero => exact Nat.le_refl _
  | succ e ih =>
    unfold obL
    split
    · rw [List.length_append, List.length_singleton]; omega
    · omega
theorem obL_ext {fs : px_FS} {a : Nat} : ∀ d, (∀ q, a ≤ q → q < a + d → isOb fs q = false) → obL fs (a + d) = obL fs a := by
  intro d
  induction d with
  | zero => intro _; rfl
  | succ d ih =>
    intro h
    have e : obL fs (a + (d + 1)) = if isOb fs (a + d) = true then obL fs (a + d) ++ [a + d] else obL fs (a + d) := rfl
    rw [e, h (a + d) (by omega) (by omega), if_neg (by decide)]
    exact ih (fun q h1 h2 => h q h1 (by omega))
theorem obL_ob (fs : px_FS) : ∀ e (i q : Nat), (obL fs e)[i]? = some q → isOb fs q = true ∧ q < e := by
  intro e
  induction e with
  | zero => intro i q h; cases h
  | succ e ih =>
    intro i q h
    unfold obL at h
    split at h
    · rename_i hb
      rw [List.getElem?_append] at h
      split at h
      · have w := ih i q h
        exact ⟨w.1, by omega⟩
      · rw [List.getElem?_singleton] at h
        split at h
        · injection h with h
          subst h
          exact ⟨hb, by omega⟩
        · cases h
    · have w := ih i q h
      exact ⟨w.1, by omega⟩
/-- a sum over a list -/
theorem sumT_map (g : Nat → Nat) : ∀ qs : List Nat, sumT (fun i => g (qs.getD i 0)) qs.length = (qs.map g).sum := by
  intro qs
  have key : ∀ e, e ≤ qs.length → sumT (fun i => g (qs.getD i 0)) e = ((qs.take e).map g).sum := by
    intro e
    induction e with
    | zero => intro _; rfl
    | succ e ih =>
      intro he
      have e1 : sumT (fun i => g (qs.getD i 0)) (e + 1) = sumT (fun i => g (qs.getD i 0)) e + g (qs.getD e 0) := rfl
      have hq : qs[e]? = some qs[e] := List.getElem?_eq_getElem (by omega)
      have e2 : qs.getD e 0 = qs[e] := by
        rw [List.getD_eq_getElem?_getD, hq]
        rfl
      have e3 : List.take (e + 1) qs = List.take e qs ++ [qs[e]] := by
        rw [List.take_succ, hq]
        rfl
      rw [e1, ih (by omega), e2, e3, List.map_append, List.sum_append]
      show _ = _ + (g qs[e] + 0)
      rw [Nat.add_zero]
  rw [key qs.length (Nat.le_refl _), List.take_length]
/-- the objects are found -/
def FOx (fs : px_FS) (σ0 σ : px_S) (qs : List Nat) : Prop := FR [0, 127] [] [128, 129] [] σ0 σ ∧ gI σ 127 = nI qs.length ∧ ∀ i q, qs[i]? = some q → gA σ 128 i = nI (obV fs q).1 ∧ gA σ 129 i = nI (obV fs q).2.1
section QFO
variable {F m : Nat} {h : px_H} {σ0 σ : px_S} {fs : px_FS} {qs : List Nat}
theorem FOx_R (hr : RF σ0 fs) (hI : FOx fs σ0 σ qs) : RF σ fs := RF_FR hr hI.1 (by decide) (by decide)
theorem FOx_1 {o n q : Nat} {b : Nat → Nat} (hI : FOx fs σ0 σ qs) (hob : obAt fs q = some (o, n, b, false)) : FOx fs σ0 (sI (sA (sA σ 128 (upd (gA σ 128) qs.length (nI o))) 129 (upd (gA σ 129) qs.length (nI n))) 127 (nI (qs.length + 1))) (qs ++ [q]) := by
  obtain ⟨hf, ec, ht⟩ := hI
  refine ⟨FR_trans (FR_trans (FR_trans hf (FR_mono (FR_A _ _ _) (by decide) (by decide) (by decide) (by decide))) (FR_mono (FR_A _ _ _) (by decide) (by decide) (by decide) (by decide))) (FR_mono (FR_I _ _ _) (by decide) (by decide) (by decide) (by decide)), by rw [gI_sI, if_pos rfl, List.length_append, List.length_singleton], fun i q' hq' => ?_⟩
  have eV : obV fs q = (o, n, b, false) := by
    unfold obV
    rw [hob]
    rfl
  simp only [gA_sI, gA_sA]
  rw [List.getElem?_append] at hq'
  split at hq'
  · rename_i hi
    obtain ⟨e2, e3⟩ := ht i q' hq'
    have e : i ≠ qs.length := by omega
    exact ⟨by simp [upd, e, e2], by simp [upd, e, e3]⟩
  · rename_i hi
    rw [List.getElem?_singleton] at hq'
    split at hq'
    · rename_i h0
      injection hq' with hq'
      subst hq'
      have e : i = qs.length := by omega
      subst e
      rw [eV]
      exact ⟨by simp [upd], by simp [upd]⟩
    · cases hq'
theorem qx_fo_17 {k7 : Nat → Int32 → px_H → Option (Unit × px_H)} {i : Nat} {l : List (Nat × Nat × Bool)} {x : Nat × (Nat → Nat)} (hm : m ≤ h.length) (hr : RF σ0 fs) (hi : i < fs.length) (hx : fs[i]? = some x) (hlm : fMem x.2 x.1 = some l) (hl : l.length ≤ 8) (el : gA σ0 8 i = nI l.length) (hK : ∀ σ, FOx fs σ0 σ (obL fs (8 * (i + 1))) → Sm m h (fun σ' => FOx fs σ0 σ' (obL fs 64)) Any (k7 m (nI (i + 1)) (mh m h σ))) : ∀ (d k f : Nat) (σ : px_S), k + d = l.length → d < f → FOx fs σ0 σ (obL fs (8 * i + k)) → Sm m h (fun σ' => FOx fs σ0 σ' (obL fs 64)) Any (f_M_findObjects_17 F k7 f m (nI i) (nI k) (mh m h σ)) := by
  have h8 := hr.2.1
  have i8 : i < 8 := by omega
  intro d
  induction d with
  | zero =>
    intro k f σ hk hf hI
    obtain ⟨f, rfl⟩ : ∃ y, f = y + 1 := ⟨f - 1, by omega⟩
    have g8 : gA σ 8 = gA σ0 8 := hI.1.2.2.1 8 (by decide)
    unfold f_M_findObjects_17 f_M_findObjects_100
    rw [Mr8 hm, bs, Ma8 hm i8, bs, g8, el, if_pos (nI_le (by omega) (by omega)), nI_add]
    refine hK σ ?_
    have e := obL_ext (fs := fs) (a := 8 * i + k) (8 - k) (fun q h1 h2 => by
      obtain ⟨k', hk', rfl⟩ : ∃ k', k' < 8 ∧ q = 8 * i + k' := ⟨q - 8 * i, by omega, by omega⟩
      refine isOb_n ?_
      rw [obAt_none hr hx hlm hk', List.getElem?_eq_none (by omega)]
      rfl)
    rw [show 8 * i + k + (8 - k) = 8 * (i + 1) by omega] at e
    rw [e]
    exact hI
  | succ d ih =>
    intro k f σ hk hf hI
    obtain ⟨f, rfl⟩ : ∃ y, f = y + 1 := ⟨f - 1, by omega⟩
    have g8 : gA σ 8 = gA σ0 8 := hI.1.2.2.1 8 (by decide)
    have hq : 8 * i + k < 64 := by omega
    have hR := FOx_R hr hI
    have hlen := obL_len fs (8 * i + k)
    obtain ⟨o, n, b, sk, hob⟩ := mem_ob (k := k) hR hi ⟨l.length, by rw [g8]; exact el, hl, by omega⟩
    obtain ⟨q1, q2, q3, q4, q5, q6, q7⟩ := RF_ob hR hob
    have eL : obL fs (8 * i + (k + 1)) = if isOb fs (8 * i + k) = true then obL fs (8 * i + k) ++ [8 * i + k] else obL fs (8 * i + k) := rfl
    unfold f_M_findObjects_17 f_M_findObjects_94
    rw [Mr8 hm, bs, Ma8 hm i8, bs, g8, el, if_neg (nI_ge (by omega) (by omega)), Mr12 hm, bs, ix8, Ma12 hm hq, bs, q4, nI_add]
    cases sk with
    | true =>
      rw [if_neg (show ¬ bI true = 0 by decide)]
      refine ih _ _ _ (by omega) (by omega) ?_
      rw [eL, isOb_o hob, if_neg (by decide)]
      exact hI
    | false =>
      rw [if_pos (show bI false = 0 from rfl), Mr128 hm, bs, Mg127 hm, bs, hI.2.1, Mr9 hm, bs, Ma9 hm hq, bs, q2, Ms128 hm (by omega), bs, Mr129 hm, bs, Mg127 hm, bs, gI_sA, hI.2.1, Mr10 hm, bs, Ma10 hm hq, bs, gA_sA, if_neg (show ¬ 10 = 128 by decide), q3, Ms129 hm (by omega), bs, Mg127 hm, bs, gI_sA, gI_sA, hI.2.1, nI_add, Mp127 hm, bs]
      refine ih _ _ _ (by omega) (by omega) ?_
      rw [eL, isOb_o hob, if_pos (show (!false) = true from rfl)]
      exact FOx_1 hI hob
theorem qx_fo_7 (hm : m ≤ h.length) (hF : 65540 < F) (hr : RF σ0 fs) : ∀ (d i f : Nat) (σ : px_S), i + d = fs.length → d < f → FOx fs σ0 σ (obL fs (8 * i)) → Sm m h (fun σ' => FOx fs σ0 σ' (obL fs 64)) Any (f_M_findObjects_7 F f m (nI i) (mh m h σ)) := by
  have h8 := hr.2.1
  intro d
  induction d with
  | zero =>
    intro i f σ hi hf hI
    obtain ⟨f, rfl⟩ : ∃ y, f = y + 1 := ⟨f - 1, by omega⟩
    unfold f_M_findObjects_7 f_M_findObjects_106
    rw [Mg5 hm, bs, (FOx_R hr hI).1, if_pos (nI_le (by omega) (by omega))]
    refine sm_r any ?_
    have e := obL_ext (fs := fs) (a := 8 * i) (64 - 8 * i) (fun q h1 h2 => by
      refine isOb_n ?_
      unfold obAt
      rw [List.getElem?_eq_none (by omega)])
    rw [show 8 * i + (64 - 8 * i) = 64 by omega] at e
    rw [e]
    exact hI
  | succ d ih =>
    intro i f σ hi hf hI
    obtain ⟨f, rfl⟩ : ∃ y, f = y + 1 := ⟨f - 1, by omega⟩
    have hil : i < fs.length := by omega
    obtain ⟨x, hx⟩ : ∃ x, fs[i]? = some x := ⟨_, List.getElem?_eq_getElem hil⟩
    obtain ⟨_, _, _, _, l, hl, _⟩ := hr.2.2.2 i x hx
    obtain ⟨y1, y2, y3, _⟩ := RF_row hr hx hl
    unfold f_M_findObjects_7
    rw [Mg5 hm, bs, (FOx_R hr hI).1, if_neg (nI_ge (by omega) (by omega))]
    exact qx_fo_17 hm hr hil hx hl y2 y1 (fun σ hI => ih _ _ _ (by omega) (by omega) hI) l.length 0 F σ (Nat.zero_add _) (by omega) hI
theorem qx_fo (hm : m ≤ h.length) (hF : 65540 < F) (hr : RF σ0 fs) : Sm m h (fun σ' => FOx fs σ0 σ' (obL fs 64)) Any (f_M_findObjects F m (mh m h σ0)) := by
  unfold f_M_findObjects
  rw [Mp127 hm, bs]
  exact qx_fo_7 hm hF hr fs.length 0 F _ (Nat.zero_add _) (by have := hr.2.1; omega) ⟨FR_mono (FR_I _ _ _) (by decide) (by decide) (by decide) (by decide), by rw [gI_sI, if_pos rfl]; rfl, fun i q hi => by cases hi⟩
/-- names, letters, bytes of the q-th object -/
def pkD (b : Nat → Nat) (k : Nat) : Bool := decide (¬ (yB b k = 0 ∨ yW b k = 0))
def pkLb (b : Nat → Nat) (k : Nat) : Nat := if k = 0 then 0 else if pkD b k = true then yL b k + 1 else 0
def pn1 (fs : px_FS) (q : Nat) : Nat := sumT (pkN (pkD (obV fs q).2.2.1)) (pkM (oM (obV fs q).2.2.1))
def pl1 (fs : px_FS) (q : Nat) : Nat := sumT (pkLb (obV fs q).2.2.1) (pkM (oM (obV fs q).2.2.1))
def pz1 (fs : px_FS) (q : Nat) : Nat := pkZ (obV fs q).2.1
/-- what pack answers -/
def pkR (fs : px_FS) : Int32 := if (obL fs 64).length ≤ 7 then pkA ((obL fs 64).map (pn1 fs)).sum ((obL fs 64).map (pl1 fs)).sum ((obL fs 64).map (pz1 fs)).sum else Int32.ofInt (-1)
theorem pkLb_e (b : Nat → Nat) (o p : Nat) : pkL (pkD b) (fun k => o + (p + yN b k)) (fun k => o + (p + yN b k) + yL b k) = pkLb b := by
  funext k
  unfold pkL pkLb
  by_cases c0 : k = 0
  · rw [if_pos c0, if_pos c0]
  · rw [if_neg c0, if_neg c0]
    by_cases c1 : pkD b k = true
    · rw [if_pos c1, if_pos c1, Nat.add_sub_cancel_left]
    · rw [if_neg c1, if_neg c1]
theorem q_pack (hm : m ≤ h.length) (hF : 65540 < F) (hr : RF σ fs) (ho : OUo σ) : Sm m h (PKe σ) (fun v => v = pkR fs) (f_M_pack F m (mh m h σ)) := by
  have hr1 : RF (sI σ 0 (nI 0)) fs := RF_0 hr (FR_I _ _ _)
  unfold f_M_pack pkR
  rw [Mp0 hm, bs, e_o hm, bs]
  refine sm_x (qx_fo hm hF hr1) (fun _ σ1 _ hI => ?_)
  have ho1 : OUo σ1 := OUo_FR (OUo_FR ho (FR_I σ 0 (nI 0)) (by decide) (by decide)) hI.1 (by decide) (by decide)
  have fr1 : FR [0, 4, 127] [] [3, 128, 129] [] σ σ1 := FR_trans (FR_mono (FR_I σ 0 (nI 0)) (by decide) (by decide) (by decide) (by decide)) (FR_mono hI.1 (by decide) (by decide) (by decide) (by decide))
  have hlen := obL_len fs 64
  have hob := obL_ob fs 64
  rw [Mg127 hm, bs, hI.2.1]
  generalize hqs : obL fs 64 = qs at *
  by_cases c7 : qs.length ≤ 7
  · rw [if_pos (nI_le c7 (by decide)), if_pos c7]
    have hR := FOx_R hr1 hI
    have hP : PKs F m h σ1 qs.length (fun i => (obV fs (qs.getD i 0)).1) (fun i => (obV fs (qs.getD i 0)).2.1) (fun i => oM (obV fs (qs.getD i 0)).2.2.1) (fun i => pkD (obV fs (qs.getD i 0)).2.2.1) (fun i k => (obV fs (qs.getD i 0)).1 + (oP (obV fs (qs.getD i 0)).2.2.1 (oX (obV fs (qs.getD i 0)).2.2.1) + yN (obV fs (qs.getD i 0)).2.2.1 k)) (fun i k => (obV fs (qs.getD i 0)).1 + (oP (obV fs (qs.getD i 0)).2.2.1 (oX (obV fs (qs.getD i 0)).2.2.1) + yN (obV fs (qs.getD i 0)).2.2.1 k) + yL (obV fs (qs.getD i 0)).2.2.1 k) := by
      refine ⟨c7, hI.2.1, fun i hi => ?_⟩
      have hq : qs[i]? = some qs[i] := List.getElem?_eq_getElem hi
      have e2 : qs.getD i 0 = qs[i] := by
        rw [List.getD_eq_getElem?_getD, hq]
        rfl
      dsimp only
      rw [e2]
      obtain ⟨g1, g2⟩ := hI.2.2 i qs[i] hq
      obtain ⟨o, n, b, eo, eV⟩ := isOb_t (hob i qs[i] hq).1
      obtain ⟨_, _, _, _, q5, q6, q7⟩ := RF_ob hR eo
      rw [eV] at g1 g2 ⊢
      exact ⟨g1, g2, PKo_of hm (by omega) hR.2.2.1 q5 q6 (q7 rfl)⟩
    have w := qx_pk30 hm hF hP ho1 qs.length 0 F (Nat.zero_add _) (by omega)
    have s1 : sumT (pkNN (fun i => oM (obV fs (qs.getD i 0)).2.2.1) (fun i => pkD (obV fs (qs.getD i 0)).2.2.1)) qs.length = (qs.map (pn1 fs)).sum := sumT_map (pn1 fs) qs
    have s2 : sumT (pkLL (fun i => oM (obV fs (qs.getD i 0)).2.2.1) (fun i => pkD (obV fs (qs.getD i 0)).2.2.1) (fun i k => (obV fs (qs.getD i 0)).1 + (oP (obV fs (qs.getD i 0)).2.2.1 (oX (obV fs (qs.getD i 0)).2.2.1) + yN (obV fs (qs.getD i 0)).2.2.1 k)) (fun i k => (obV fs (qs.getD i 0)).1 + (oP (obV fs (qs.getD i 0)).2.2.1 (oX (obV fs (qs.getD i 0)).2.2.1) + yN (obV fs (qs.getD i 0)).2.2.1 k) + yL (obV fs (qs.getD i 0)).2.2.1 k)) qs.length = (qs.map (pl1 fs)).sum := by
      rw [← sumT_map (pl1 fs) qs]
      congr 1
      funext i
      unfold pkLL pl1
      rw [pkLb_e]
    have s3 : sumT (pkZZ (fun i => (obV fs (qs.getD i 0)).2.1)) qs.length = (qs.map (pz1 fs)).sum := sumT_map (pz1 fs) qs
    rw [s1, s2, s3] at w
    refine sm_wI (I1 := OWe σ1) w (fun σ2 w => ?_)
    obtain ⟨cc, hcc, hW⟩ := w
    exact ⟨FR_trans fr1 (FR_mono hW.1 (by decide) (by decide) (by decide) (by decide)), ⟨cc, hcc, hW.2.1⟩, hW.2.2⟩
  · rw [if_neg (nI_ge (a := 7) (by omega) (by omega)), if_neg c7]
    exact sm_r rfl ⟨fr1, ho1⟩
end QFO
