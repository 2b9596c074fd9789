/-! takeAll of the reference -/
def ta1 (fs : px_FS) (f : Nat) (s : px_TK) : px_TK := if s.1.1 = 1 then s else match fs[f]? with
  | none => s
  | some x => if isAr x.2 x.1 = true then tfL fs f 9 s else tkM (sub x.2 0 x.1) (8 * f) s
theorem whl_inv {α : Type} {st : α → Bool} {g : α → α × Bool} {P : α → Prop} (h : ∀ s, P s → P (g s).1) : ∀ (c : Nat) (s : α), P s → P (whl st g c s) := by
  intro c
  induction c with
  | zero => intro s hs; exact hs
  | succ c ih =>
    intro s hs
    rw [whl_s]
    split
    · exact hs
    · split
      · exact ih _ (h s hs)
      · exact h s hs
def qLt (f : Nat) (s : px_TK) : Prop := ∀ q, q ∈ s.2.2.1 → q / 8 < f + 1
theorem tf1_q {fs : px_FS} {f k : Nat} {p : px_TK × Bool} (hk : k < 8) (h : qLt f p.1) : qLt f (tf1 fs f k p).1 := by
  rcases tf1_cs (fs := fs) (f := f) (k := k) (p := p) with e | ⟨b, ca, e⟩
  · rw [e]; exact h
  · rw [e]
    intro q hq
    have hq : q ∈ p.1.2.2.1 ++ [8 * f + k] := hq
    rcases List.mem_append.mp hq with hq | hq
    · exact h q hq
    · rw [List.mem_singleton.mp hq]; omega
theorem rdF_q {fs : px_FS} {f : Nat} {s : px_TK} (h : qLt f s) : qLt f (rdF fs f s).1 := by
  unfold rdF
  exact itr_inv (g := tf1 fs f) (P := fun p : px_TK × Bool => qLt f p.1) (a := 0) (e := 8) (fun k p _ hk hp => tf1_q hk hp) 8 0 (s, false) (Nat.le_refl _) (Nat.le_refl _) h
theorem tfL_q {fs : px_FS} {f c : Nat} {s : px_TK} (h : qLt f s) : qLt f (tfL fs f c s) := by
  unfold tfL
  exact whl_inv (st := tfS) (g := rdF fs f) (P := qLt f) (fun s hs => rdF_q hs) c s h
section MTL2
variable {F m : Nat} {h : px_H} {σ0 : px_S} {fs : px_FS}
theorem q_tA_2w (hm : m ≤ h.length) : ∀ (c k g : Nat) (σ : px_S), k + c = 64 → c < g → (∀ q, q < k → gA σ 18 q = bI false ∧ gA σ 40 q = tdA none) → ∃ σ', f_M_takeAll_2 F g m (nI k) (mh m h σ) = f_M_takeAll_28 F m (mh m h σ') ∧ (∀ q, q < 64 → gA σ' 18 q = bI false ∧ gA σ' 40 q = tdA none) ∧ FR [] [] [18, 40] [] σ σ' := by
  intro c
  induction c with
  | zero =>
    intro k g σ hk hg hq
    obtain ⟨g, rfl⟩ : ∃ x, g = x + 1 := ⟨g - 1, by omega⟩
    unfold f_M_takeAll_2
    rw [if_pos (nI_le (by omega) (by omega))]
    exact ⟨σ, rfl, fun q h1 => hq q (by omega), FR_refl σ⟩
  | succ c ih =>
    intro k g σ hk hg hq
    obtain ⟨g, rfl⟩ : ∃ x, g = x + 1 := ⟨g - 1, by omega⟩
    unfold f_M_takeAll_2
    rw [if_neg (nI_ge (by omega) (by omega)), Mr18 hm, bs, show nI 0 &&& 1 = bI false from rfl, Ms18 hm (by omega), bs, Mr40 hm, bs, Ms40 hm (by omega), bs, nI_add]
    obtain ⟨σ1, hσ1⟩ : ∃ x, x = sA (sA σ 18 (upd (gA σ 18) k (bI false))) 40 (upd (gA (sA σ 18 (upd (gA σ 18) k (bI false))) 40) k (Int32.ofInt (-1))) := ⟨_, rfl⟩
    have f1 : FR [] [] [18, 40] [] σ σ1 := by
      rw [hσ1]
      exact FR_trans (FR_mono (FR_A σ 18 _) (by decide) (by decide) (by decide) (by decide)) (FR_mono (FR_A _ 40 _) (by decide) (by decide) (by decide) (by decide))
    rw [← hσ1]
    obtain ⟨σ2, j1, j2, j3⟩ := ih (k + 1) g σ1 (by omega) (by omega) (fun q hq2 => by
      have e18 : gA σ1 18 = upd (gA σ 18) k (bI false) := by rw [hσ1]; rfl
      have e40 : gA σ1 40 = upd (gA σ 40) k (Int32.ofInt (-1)) := by rw [hσ1]; rfl
      rw [e18, e40]
      by_cases c1 : q = k
      · rw [c1, upd_eq, upd_eq]; exact ⟨rfl, rfl⟩
      · rw [upd_ne c1, upd_ne c1]; exact hq q (by omega))
    exact ⟨σ2, j1, j2, FR_trans f1 j3⟩
theorem q_tA_30w (hm : m ≤ h.length) {N : Nat} (hN : N ≤ 8) : ∀ (c k g : Nat) (σ : px_S), k + c = N → c < g → gI σ 5 = nI N → (∀ q, q < k → gA σ 19 q = bI true) → ∃ σ', f_M_takeAll_30 F g m (nI k) (mh m h σ) = f_M_takeAll_51 F m (mh m h σ') ∧ (∀ q, q < N → gA σ' 19 q = bI true) ∧ FR [] [] [19] [] σ σ' := by
  intro c
  induction c with
  | zero =>
    intro k g σ hk hg h5 hq
    obtain ⟨g, rfl⟩ : ∃ x, g = x + 1 := ⟨g - 1, by omega⟩
    unfold f_M_takeAll_30
    rw [Mg5 hm, bs, h5, if_pos (nI_le (by omega) (by omega))]
    exact ⟨σ, rfl, fun q h1 => hq q (by omega), FR_refl σ⟩
  | succ c ih =>
    intro k g σ hk hg h5 hq
    obtain ⟨g, rfl⟩ : ∃ x, g = x + 1 := ⟨g - 1, by omega⟩
    unfold f_M_takeAll_30
    rw [Mg5 hm, bs, h5, if_neg (nI_ge (by omega) (by omega)), Mr19 hm, bs, show nI 1 &&& 1 = bI true from rfl, Ms19 hm (by omega), bs, nI_add]
    obtain ⟨σ2, j1, j2, j3⟩ := ih (k + 1) g (sA σ 19 (upd (gA σ 19) k (bI true))) (by omega) (by omega) h5 (fun q hq2 => by
      show upd (gA σ 19) k (bI true) q = _
      by_cases c1 : q = k
      · rw [c1, upd_eq]
      · rw [upd_ne c1]; exact hq q (by omega))
    exact ⟨σ2, j1, j2, FR_trans (FR_A σ 19 _) j3⟩
theorem q_tA_53w (hm : m ≤ h.length) (hF : 65536 < F) (hB0 : ∀ k, isB (gA σ0 3 k)) : ∀ (c f g : Nat) (σ : px_S) (s : px_TK), f + c = 8 → c < g → RF σ fs → RK σ0 σ s → BK fs s → (∀ q, q ∈ s.2.2.1 → q / 8 < f) → ∃ σ', f_M_takeAll_53 F g m (nI f) (mh m h σ) = some ((), mh m h σ') ∧ RK σ0 σ' (itr (ta1 fs) f c s) ∧ BK fs (itr (ta1 fs) f c s) ∧ RF σ' fs ∧ FR tkI [] tkA [30] σ σ' := by
  intro c
  induction c with
  | zero =>
    intro f g σ s hf hg hr hR hb hq
    obtain ⟨g, rfl⟩ : ∃ x, g = x + 1 := ⟨g - 1, by omega⟩
    have h8 := hr.2.1
    unfold f_M_takeAll_53 f_M_takeAll_100
    rw [Mg5 hm, bs, hr.1, if_pos (nI_le (by omega) (by omega))]
    exact ⟨σ, rfl, hR, hb, hr, FR_refl σ⟩
  | succ c ih =>
    intro f g σ s hf hg hr hR hb hq
    obtain ⟨g, rfl⟩ : ∃ x, g = x + 1 := ⟨g - 1, by omega⟩
    have h8 := hr.2.1
    unfold f_M_takeAll_53 f_M_takeAll_100
    rw [Mg5 hm, bs, hr.1]
    by_cases c1 : fs.length ≤ f
    · rw [if_pos (nI_le (by omega) (by omega))]
      have e : itr (ta1 fs) f (c + 1) s = s := by
        refine itr_idr (c + 1) f (fun j h1 h2 => ?_)
        unfold ta1
        rw [List.getElem?_eq_none (by omega)]
        split <;> rfl
      rw [e]
      exact ⟨σ, rfl, hR, hb, hr, FR_refl σ⟩
    · rw [if_neg (nI_ge (by omega) (by omega)), Mg13 hm, bs, hR.1]
      have han := hb.1
      by_cases c2 : s.1.1 = 1
      · rw [if_pos (by rw [c2])]
        have e : itr (ta1 fs) f (c + 1) s = s := itr_id (fun i => by unfold ta1; rw [if_pos c2]) (c + 1) f
        rw [e]
        exact ⟨σ, rfl, hR, hb, hr, FR_refl σ⟩
      · rw [if_neg (fun q => c2 ((nI_eq (by omega) (by decide)).mp q))]
        obtain ⟨x, hx⟩ : ∃ x, fs[f]? = some x := ⟨fs[f]'(by omega), List.getElem?_eq_getElem (by omega)⟩
        obtain ⟨l, hl⟩ : ∃ l, fMem x.2 x.1 = some l := by
          obtain ⟨_, _, _, _, l, a5, _⟩ := hr.2.2.2 f x hx
          exact ⟨l, a5⟩
        obtain ⟨r1, r2, r3, r4⟩ := RF_row hr hx hl
        have hst : ta1 fs f s = if isAr x.2 x.1 = true then tfL fs f 9 s else tkM (sub x.2 0 x.1) (8 * f) s := by
          unfold ta1
          rw [if_neg c2, hx]
        have step : ∀ σ1 s1, RF σ1 fs → FR tkI [] tkA [30] σ σ1 → RK σ0 σ1 s1 → BK fs s1 → (∀ q, q ∈ s1.2.2.1 → q / 8 < f + 1) → ta1 fs f s = s1 → ∃ σ', f_M_takeAll_53 F g m (nI (f + 1)) (mh m h σ1) = some ((), mh m h σ') ∧ RK σ0 σ' (itr (ta1 fs) f (c + 1) s) ∧ BK fs (itr (ta1 fs) f (c + 1) s) ∧ RF σ' fs ∧ FR tkI [] tkA [30] σ σ' := by
          intro σ1 s1 a0 a1 a2 a3 a4 a5
          obtain ⟨σ', j1, j2, j3, j4, j5⟩ := ih (f + 1) g σ1 s1 (by omega) (by omega) a0 a2 a3 a4
          rw [itr_s, a5]
          exact ⟨σ', j1, j2, j3, j4, FR_trans a1 j5⟩
        unfold f_M_takeAll_94
        rw [Mr11 hm, bs, Ma11 hm r3, bs, r4, nI_add]
        cases ea : isAr x.2 x.1 with
        | true =>
          rw [ea, if_pos rfl] at hst
          rw [if_neg (show ¬ bI true = 0 by decide), e_o hm, bs]
          obtain ⟨σ1, t1, t2, t3, t4, t5⟩ := q_takeFrom (F := F) (σ := σ) (s := s) hm hF hB0 hx hl hr hR hb
          rw [t1, xb_mk]
          exact step σ1 _ t4 t5 t2 t3 (tfL_q (fun q hq' => by have := hq q hq'; omega)) hst
        | false =>
          rw [ea, if_neg (by decide)] at hst
          have hl2 : fMem x.2 x.1 = some [(0, x.1, false)] := by unfold fMem; rw [ea, if_neg (by decide)]
          have hob := obAt_none (k := 0) hr hx hl2 (by omega)
          have hob : obAt fs (8 * f) = some (8192 * f + 0, x.1, sub x.2 0 x.1, false) := hob
          rw [if_pos (show bI false = 0 from rfl), e_o hm, bs, pk_mul]
          obtain ⟨σ1, t1, t2, t3, t4⟩ := q_takeK (F := F) (σ := σ) (s := s) hm hF hr hB0 hR hb hob (fun q => by have := hq _ q; omega)
          rw [t1, xb_mk]
          refine step σ1 _ (RF_FR hr t4 (by decide) (by decide)) t4 t2 t3 (fun q hq2 => ?_) hst
          have hq2 : q ∈ s.2.2.1 ++ [8 * f] := hq2
          rcases List.mem_append.mp hq2 with hq2 | hq2
          · have := hq q hq2; omega
          · rw [List.mem_singleton.mp hq2]; omega
/-- all that is taken, from what was told -/
def taL (fs : px_FS) (xs : px_NL) (od : List Nat) : px_TK := itr (ta1 fs) 0 8 ((0, xs, od, none), (fun _ => false, 0, []), [], fun _ => none)
theorem q_takeAll {σ : px_S} {xs : px_NL} {od : List Nat} (hm : m ≤ h.length) (hF : 65536 < F) (hr : RF σ fs) (hB3 : ∀ k, isB (gA σ 3 k)) (h13 : gI σ 13 = nI 0) (hR : RL σ xs) (hok : okL xs) (hxl : xs.length ≤ 32) (ho : RO σ od) (hol : od.length ≤ 32) (hd : RDr σ (fun _ => false)) (h69 : gI σ 69 = nI 0) (h70 : gI σ 70 = nI 0) (h14 : gI σ 14 = nI 0) : ∃ σ', f_M_takeAll F m (mh m h σ) = some ((), mh m h σ') ∧ RK σ σ' (taL fs xs od) ∧ BK fs (taL fs xs od) ∧ RF σ' fs ∧ (∀ q, q < fs.length → gA σ' 19 q = bI true) ∧ FR tkI [] (19 :: tkA) [30] σ σ' := by
  obtain ⟨σ1, a1, a2, a3⟩ := q_tA_2w (F := F) (h := h) hm 64 0 F σ (by omega) (by omega) (fun q hq => absurd hq (Nat.not_lt_zero q))
  have hr1 := RF_FR hr a3 (by decide) (by decide)
  obtain ⟨σ2, c1, c2, c3⟩ := q_tA_30w (F := F) (h := h) (N := fs.length) hm hr.2.1 fs.length 0 F σ1 (by omega) (by have := hr.2.1; omega) hr1.1 (fun q hq => absurd hq (Nat.not_lt_zero q))
  have hr2 := RF_FR hr1 c3 (by decide) (by decide)
  have f12 : FR [] [] [18, 40, 19] [] σ σ2 := FR_trans (FR_mono a3 (by decide) (by decide) (by decide) (by decide)) (FR_mono c3 (by decide) (by decide) (by decide) (by decide))
  have hk : RK σ σ2 ((0, xs, od, none), (fun _ => false, 0, []), [], fun _ => none) := by
    refine ⟨(f12.1 13 (by decide)).trans h13, RL_FR hR f12 (by decide) (by decide) (by decide), RO_FR ho f12 (by decide) (by decide), ⟨fun _ => ⟨f12.1 4 (by decide), f12.2.2.1 3 (by decide)⟩, fun w hw => nomatch hw⟩, ?_, (f12.1 69 (by decide)).trans h69, ⟨(f12.1 70 (by decide)).trans h70, Nat.zero_le _, fun i w hw => ?_⟩, (f12.1 14 (by decide)).trans h14, fun i q hq => ?_, fun q hq => ?_, fun q hq => ?_⟩
    · intro i hi
      rw [f12.2.2.1 65 (by decide)]; exact hd i hi
    · rw [List.getElem?_nil] at hw; cases hw
    · have hq : ([] : List Nat)[i]? = some q := hq
      rw [List.getElem?_nil] at hq; cases hq
    · rw [c3.2.2.1 18 (by decide), (a2 q hq).1]
      show bI false = bI (decide (q ∈ ([] : List Nat)))
      rw [decide_eq_false (List.not_mem_nil)]
    · rw [c3.2.2.1 40 (by decide), (a2 q hq).2]
  have hb : BK fs ((0, xs, od, none), (fun _ => false, 0, []), [], fun _ => none) := ⟨Nat.zero_le _, hok, by show xs.length ≤ 32 + 63 * 0; omega, by show od.length ≤ 32 + 63 * 0; omega, Nat.zero_le _, List.nodup_nil, fun q hq => absurd hq List.not_mem_nil⟩
  obtain ⟨σ3, d1, d2, d3, d4, d5⟩ := q_tA_53w (F := F) (h := h) (σ0 := σ) hm hF hB3 8 0 F σ2 _ (by omega) (by omega) hr2 hk hb (fun q hq => absurd hq List.not_mem_nil)
  refine ⟨σ3, ?_, d2, d3, d4, fun q hq => ?_, FR_trans (FR_mono f12 (by decide) (by decide) (by decide) (by decide)) (FR_mono d5 (by decide) (by decide) (by decide) (by decide))⟩
  · unfold f_M_takeAll
    rw [a1]
    unfold f_M_takeAll_28
    rw [c1]
    exact d1
  · rw [d5.2.2.1 19 (by decide)]; exact c2 q hq
end MTL2
