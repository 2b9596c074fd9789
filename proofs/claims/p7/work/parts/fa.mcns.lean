/-! the reference merges: it counts symbols (steps spelled out by sf/pp.py) -/
/-- the local symbols ahead of symbol k of object t have their numbers, below a -/
def MLo (σ : px_S) (tb : Nat → Nat → Nat) (t k a : Nat) : Prop := ∀ t' k', (t' < t ∨ (t' = t ∧ k' < k)) → 1 ≤ k' → k' < oM (tb t') → yB (tb t') k' = 0 → ∃ v, v < a ∧ gA σ 118 (64 * t' + k') = nI v
abbrev mgS (σ0 σ : px_S) : Prop := FR [124, 125] [] [118, 119, 122] [] σ0 σ
/-- the names that have a number: those from f on, below 64 -/
def MNl (σ : px_S) (N f a : Nat) : Prop := gI σ 124 = nI f ∧ ∀ k, f ≤ k → k < a → k < 64 → ∃ n, n < N ∧ gA σ 122 k = nI n
/-- symbols counted -/
def MSd (σ0 : px_S) (T : Nat) (tb : Nat → Nat → Nat) (N : Nat) (σ : px_S) : Prop := mgS σ0 σ ∧ ∃ f a, 1 ≤ f ∧ f ≤ a ∧ a < 2 ^ 20 ∧ gI σ 125 = nI a ∧ MLo σ tb T 0 a ∧ MNl σ N f a
section MCS
variable {F m T t i : Nat} {h : px_H} {σ0 σ : px_S} {tO tn : Nat → Nat} {tb : Nat → Nat → Nat} {dr : Nat → Bool} {xs : px_NL} {od : List Nat} {on : Bool} {R : Nat → Bool}
theorem MGk_s (hk : MGk σ0 T tO tn tb dr xs od on R) (f : mgS σ0 σ) : MGk σ T tO tn tb dr xs od on R := MGk_FR hk f (by decide) (by decide) (by decide) (by decide)
/-- a name gets its number -/
theorem sm_numN {n f a : Nat} (hm : m ≤ h.length) (hn : n < xs.length) (hx : xs.length ≤ 4096) (ha : a + 1 < 2 ^ 20) (hfa : f ≤ a) (hf : mgS σ0 σ) (e125 : gI σ 125 = nI a) (hL : MLo σ tb T 0 a) (hN : MNl σ xs.length f a) : Sm m h (fun σ' => mgS σ0 σ' ∧ gI σ' 125 = nI (a + 1) ∧ MLo σ' tb T 0 (a + 1) ∧ MNl σ' xs.length f (a + 1)) Any (f_M_numberName F m (nI n) (mh m h σ)) := by
  obtain ⟨e124, hK⟩ := hN
  unfold f_M_numberName
  rw [Mg125 hm, bs, e125]
  have fin : ∀ σ1, mgS σ0 σ1 → gI σ1 125 = nI a → gI σ1 124 = nI f → gA σ1 118 = gA σ 118 → (∀ k, f ≤ k → k < a + 1 → k < 64 → ∃ n, n < xs.length ∧ gA σ1 122 k = nI n) → Sm m h (fun σ' => mgS σ0 σ' ∧ gI σ' 125 = nI (a + 1) ∧ MLo σ' tb T 0 (a + 1) ∧ MNl σ' xs.length f (a + 1)) Any (f_M_numberName_19 F m (nI n) (mh m h σ1)) := fun σ1 g1 g2 g3 g4 g5 => by
    unfold f_M_numberName_19
    rw [Mr119 hm, bs, Mg125 hm, bs, g2, Ms119 hm (by omega), bs, Mg125 hm, bs, gI_sA, g2, nI_add, Mp125 hm, bs]
    refine sm_r any ⟨FR_trans (FR_trans g1 (FR_mono (FR_A _ _ _) (by decide) (by decide) (by decide) (by decide))) (FR_mono (FR_I _ _ _) (by decide) (by decide) (by decide) (by decide)), by rw [gI_sI, if_pos rfl], fun t' k' w1 w2 w3 w4 => ?_, by rw [gI_sI, if_neg (by decide), gI_sA]; exact g3, fun k k1 k2 k3 => ?_⟩
    · obtain ⟨v, v1, v2⟩ := hL t' k' w1 w2 w3 w4
      refine ⟨v, by omega, ?_⟩
      rw [gA_sI, gA_sA, if_neg (by decide), g4]
      exact v2
    · obtain ⟨n', n1, n2⟩ := g5 k k1 k2 k3
      exact ⟨n', n1, by rw [gA_sI, gA_sA, if_neg (by decide)]; exact n2⟩
  by_cases c : 64 ≤ a
  · rw [if_pos (nI_le c (by omega))]
    exact fin σ hf e125 e124 rfl (fun k k1 k2 k3 => hK k k1 (by omega) k3)
  · rw [if_neg (nI_ge (by omega) (by omega)), Mr122 hm, bs, bs, Ms122 hm (by omega), bs]
    refine fin _ (FR_trans hf (FR_mono (FR_A _ _ _) (by decide) (by decide) (by decide) (by decide))) (by rw [gI_sA]; exact e125) (by rw [gI_sA]; exact e124) (by rw [gA_sA, if_neg (by decide)]) (fun k k1 k2 k3 => ?_)
    rw [gA_sA, if_pos rfl]
    by_cases e : k = a
    · exact ⟨n, hn, by simp [upd, e]⟩
    · obtain ⟨n', n1, n2⟩ := hK k k1 (by omega) k3
      exact ⟨n', n1, by simp [upd, e, n2]⟩
theorem sm_cs119 (hm : m ≤ h.length) (hF : 65540 < F) (hk : MGk σ0 T tO tn tb dr xs od on R) {f0 : Nat} (hf1 : 1 ≤ f0) : ∀ (d n f a : Nat) (σ : px_S), n + d = xs.length → d < f → a + d < 2 ^ 20 → f0 ≤ a → mgS σ0 σ → gI σ 125 = nI a → MLo σ tb T 0 a → MNl σ xs.length f0 a → Sm m h (MSd σ0 T tb xs.length) Any (f_M_countSymbols_119 F f m (nI n) (mh m h σ)) := by
  have hx : xs.length ≤ 4096 := by have := hk.1.2.2.1.2.1; rw [List.length_map] at this; exact this
  intro d
  induction d with
  | zero =>
    intro n f a σ hn hf ha hfa hI e125 hL hN
    obtain ⟨f, rfl⟩ : ∃ y, f = y + 1 := ⟨f - 1, by omega⟩
    have e20 : gI σ 20 = nI xs.length := by have := (MGk_s hk hI).1.2.2.1.1; rw [List.length_map] at this; exact this
    unfold f_M_countSymbols_119 f_M_countSymbols_157
    rw [Mg20 hm, bs, e20, if_pos (nI_le (by omega) (by omega))]
    exact sm_r any ⟨hI, f0, a, hf1, hfa, by omega, e125, hL, hN⟩
  | succ d ih =>
    intro n f a σ hn hf ha hfa hI e125 hL hN
    obtain ⟨f, rfl⟩ : ∃ y, f = y + 1 := ⟨f - 1, by omega⟩
    have e20 : gI σ 20 = nI xs.length := by have := (MGk_s hk hI).1.2.2.1.1; rw [List.length_map] at this; exact this
    have e1 : Sm m h (MSd σ0 T tb xs.length) Any (f_M_countSymbols_151 F (f_M_countSymbols_119 F f) m (nI n) (mh m h σ)) := by
      unfold f_M_countSymbols_151
      rw [nI_add]
      exact ih _ _ a σ (by omega) (by omega) (by omega) hfa hI e125 hL hN
    have e2 : Sm m h (MSd σ0 T tb xs.length) Any (f_M_countSymbols_146 F (f_M_countSymbols_119 F f) m (nI n) (mh m h σ)) := by
      unfold f_M_countSymbols_146 f_M_countSymbols_151
      rw [nI_add]
      refine sm_o hm (fun _ => sm_x (sm_numN (F := F) (n := n) (xs := xs) hm (by omega) hx (by omega) hfa hI e125 hL hN) (fun _ σ _ hi => ?_))
      obtain ⟨g1, g2, g3, g4⟩ := hi
      exact ih _ _ (a + 1) σ (by omega) (by omega) (by omega) (by omega) g1 g2 g3 g4
    unfold f_M_countSymbols_119
    rw [Mg20 hm, bs, e20, if_neg (nI_ge (by omega) (by omega)), Mr23 hm, bs, Ma23 hm (by omega), bs]
    refine sm_i (fun _ => e2) (fun _ => ?_)
    rw [bs, Ma23 hm (by omega), bs]
    exact sm_i (fun _ => e2) (fun _ => e1)
theorem sm_cs93 (hm : m ≤ h.length) (hF : 65540 < F) (hk : MGk σ0 T tO tn tb dr xs od on R) (hod : ∀ d, d ∈ od → d < xs.length) {f0 : Nat} (hf1 : 1 ≤ f0) : ∀ (d q f a : Nat) (σ : px_S), q + d = od.length → d < f → a + d + xs.length < 2 ^ 20 → f0 ≤ a → mgS σ0 σ → gI σ 125 = nI a → MLo σ tb T 0 a → MNl σ xs.length f0 a → Sm m h (MSd σ0 T tb xs.length) Any (f_M_countSymbols_93 F f m (nI q) (mh m h σ)) := by
  have hx : xs.length ≤ 4096 := by have := hk.1.2.2.1.2.1; rw [List.length_map] at this; exact this
  have hl := hk.2.2.1.2.1
  intro d
  induction d with
  | zero =>
    intro q f a σ hq hf ha hfa hI e125 hL hN
    obtain ⟨f, rfl⟩ : ∃ y, f = y + 1 := ⟨f - 1, by omega⟩
    unfold f_M_countSymbols_93 f_M_countSymbols_117
    rw [Mg48 hm, bs, (MGk_s hk hI).2.2.1.1, if_pos (nI_le (by omega) (by omega))]
    exact sm_cs119 hm hF hk hf1 xs.length 0 F a σ (Nat.zero_add _) (by omega) (by omega) hfa hI e125 hL hN
  | succ d ih =>
    intro q f a σ hq hf ha hfa hI e125 hL hN
    obtain ⟨f, rfl⟩ : ∃ y, f = y + 1 := ⟨f - 1, by omega⟩
    have hx' : od[q]? = some od[q] := List.getElem?_eq_getElem (by omega)
    have hO := (MGk_s hk hI).2.2.1
    unfold f_M_countSymbols_93
    rw [Mg48 hm, bs, hO.1, if_neg (nI_ge (by omega) (by omega)), Mr49 hm, bs, Ma49 hm (by omega), bs, hO.2.2 q _ hx', nI_add]
    refine sm_o hm (fun _ => sm_x (sm_numN (F := F) (n := od[q]) (xs := xs) hm (hod _ (List.getElem_mem _)) hx (by omega) hfa hI e125 hL hN) (fun _ σ _ hi => ?_))
    obtain ⟨g1, g2, g3, g4⟩ := hi
    exact ih _ _ (a + 1) σ (by omega) (by omega) (by omega) (by omega) g1 g2 g3 g4
theorem sm_cs17 {k7 : Nat → Int32 → px_H → Option (Unit × px_H)} (hm : m ≤ h.length) (hF : 65540 < F) (hT : T ≤ 64) (ht : t < T) (hk : MGk σ0 T tO tn tb dr xs od on R) (hK : ∀ σ a, 1 ≤ a → a ≤ 1 + 64 * (t + 1) → mgS σ0 σ → gI σ 125 = nI a → MLo σ tb (t + 1) 0 a → Sm m h (MSd σ0 T tb xs.length) Any (k7 m (nI (t + 1)) (mh m h σ))) : ∀ (d k f a : Nat) (σ : px_S), k + d = pkM (oM (tb t)) → 1 ≤ k → d < f → 1 ≤ a → a ≤ 64 * t + k → mgS σ0 σ → gI σ 125 = nI a → MLo σ tb t k a → Sm m h (MSd σ0 T tb xs.length) Any (f_M_countSymbols_17 F k7 f m (nI t) (nI k) (mh m h σ)) := by
  have hM := w2_M (OB_w (MGk_o hk ht))
  obtain ⟨m1, m2, m3⟩ := pkM_1 (oM (tb t))
  have hMx : pkM (oM (tb t)) ≤ 64 := by unfold pkM; split <;> omega
  intro d
  induction d with
  | zero =>
    intro k f a σ hk1 h1 hf ha1 ha hI e125 hL
    obtain ⟨f, rfl⟩ : ∃ y, f = y + 1 := ⟨f - 1, by omega⟩
    have hb := MGk_o (MGk_s hk hI) ht
    unfold f_M_countSymbols_17 f_M_countSymbols_77
    rw [e_o hm, bs, O_obj hm hb, xb_mk, e_o hm, bs, O_many hm (by omega) hb, xb_mk, if_pos (nI_le (by omega) (by omega)), nI_add]
    refine hK σ a ha1 (by omega) hI e125 (fun t' k' w1 w2 w3 w4 => hL t' k' ?_ w2 w3 w4)
    rcases w1 with w1 | w1
    · by_cases e : t' = t
      · subst e
        exact Or.inr ⟨rfl, by omega⟩
      · exact Or.inl (by omega)
    · omega
  | succ d ih =>
    intro k f a σ hk1 h1 hf ha1 ha hI e125 hL
    obtain ⟨f, rfl⟩ : ∃ y, f = y + 1 := ⟨f - 1, by omega⟩
    have hb := MGk_o (MGk_s hk hI) ht
    have hkM := m3 k h1 (by omega)
    have hyB : yB (tb t) k < 2 ^ 31 := by
      have := OB_y hb h1 hkM
      unfold yOK at this
      have := (of_decide_eq_true this).1
      omega
    unfold f_M_countSymbols_17 f_M_countSymbols_71
    rw [e_o hm, bs, O_obj hm hb, xb_mk, e_o hm, bs, O_many hm (by omega) hb, xb_mk, if_neg (nI_ge (by omega) (by omega)), e_o hm, bs, O_obj hm hb, xb_mk, e_o hm, bs, O_bind hm (by omega) hb hkM, xb_mk, nI_add]
    by_cases c : yB (tb t) k = 0
    · rw [if_pos (by rw [c]; rfl), Mr118 hm, bs, Mg125 hm, bs, e125, show nI 64 * nI t = nI (64 * t) from (Int32.ofNat_mul _ _).symm, nI_add, Ms118 hm (by omega), bs, Mg125 hm, bs, gI_sA, e125, nI_add, Mp125 hm, bs]
      refine ih (k + 1) f (a + 1) _ (by omega) (by omega) (by omega) (by omega) (by omega) (FR_trans (FR_trans hI (FR_mono (FR_A _ _ _) (by decide) (by decide) (by decide) (by decide))) (FR_mono (FR_I _ _ _) (by decide) (by decide) (by decide) (by decide))) (by rw [gI_sI, if_pos rfl]) (fun t' k' w1 w2 w3 w4 => ?_)
      rw [gA_sI, gA_sA, if_pos rfl]
      by_cases e : 64 * t' + k' = 64 * t + k
      · exact ⟨a, by omega, by simp [upd, e]⟩
      · obtain ⟨v, v1, v2⟩ := hL t' k' (by
          rcases w1 with w1 | ⟨w1, w5⟩
          · exact Or.inl w1
          · refine Or.inr ⟨w1, ?_⟩
            have : k' ≠ k := fun q => e (by rw [w1, q])
            omega) w2 w3 w4
        exact ⟨v, by omega, by simp [upd, e, v2]⟩
    · rw [if_neg (nI_nz hyB c)]
      refine ih (k + 1) f a σ (by omega) (by omega) (by omega) ha1 (by omega) hI e125 (fun t' k' w1 w2 w3 w4 => hL t' k' ?_ w2 w3 w4)
      rcases w1 with w1 | ⟨w1, w5⟩
      · exact Or.inl w1
      · refine Or.inr ⟨w1, ?_⟩
        have : k' ≠ k := fun q => c (by rw [w1, q] at w4; exact w4)
        omega
theorem sm_cs7 (hm : m ≤ h.length) (hF : 65540 < F) (hT : T ≤ 64) (hk : MGk σ0 T tO tn tb dr xs od on R) (hod : ∀ d, d ∈ od → d < xs.length) : ∀ (d t f a : Nat) (σ : px_S), t + d = T → d < f → 1 ≤ a → a ≤ 1 + 64 * t → mgS σ0 σ → gI σ 125 = nI a → MLo σ tb t 0 a → Sm m h (MSd σ0 T tb xs.length) Any (f_M_countSymbols_7 F f m (nI t) (mh m h σ)) := by
  have hx : xs.length ≤ 4096 := by have := hk.1.2.2.1.2.1; rw [List.length_map] at this; exact this
  have hl := hk.2.2.1.2.1
  intro d
  induction d with
  | zero =>
    intro t f a σ ht hf ha1 ha hI e125 hL
    obtain ⟨f, rfl⟩ : ∃ y, f = y + 1 := ⟨f - 1, by omega⟩
    obtain rfl : t = T := by omega
    unfold f_M_countSymbols_7 f_M_countSymbols_83
    rw [Mg14 hm, bs, (MGk_s hk hI).2.2.2, if_pos (nI_le (by omega) (by omega)), Mg125 hm, bs, e125, Mp124 hm, bs]
    refine sm_cs93 hm hF hk hod ha1 od.length 0 F a _ (Nat.zero_add _) (by omega) (by omega) (Nat.le_refl _) (FR_trans hI (FR_mono (FR_I _ _ _) (by decide) (by decide) (by decide) (by decide))) (by rw [gI_sI, if_neg (by decide)]; exact e125) hL ⟨by rw [gI_sI, if_pos rfl], fun k k1 k2 => by omega⟩
  | succ d ih =>
    intro t f a σ ht hf ha1 ha hI e125 hL
    obtain ⟨f, rfl⟩ : ∃ y, f = y + 1 := ⟨f - 1, by omega⟩
    have hMM := w2_M (OB_w (MGk_o hk (show t < T by omega)))
    obtain ⟨m1, m2, m3⟩ := pkM_1 (oM (tb t))
    have hMx : pkM (oM (tb t)) ≤ 64 := by unfold pkM; split <;> omega
    unfold f_M_countSymbols_7
    rw [Mg14 hm, bs, (MGk_s hk hI).2.2.2, if_neg (nI_ge (by omega) (by omega))]
    refine sm_cs17 hm hF hT (by omega) hk (fun σ a g1 g2 g3 g4 g5 => ih _ _ a σ (by omega) (by omega) g1 g2 g3 g4 g5) (pkM (oM (tb t)) - 1) 1 F a σ (by omega) (Nat.le_refl _) (by omega) ha1 (by omega) hI e125 (fun t' k' w1 w2 w3 w4 => hL t' k' ?_ w2 w3 w4)
    rcases w1 with w1 | w1
    · exact Or.inl w1
    · omega
theorem sm_countSymbols (hm : m ≤ h.length) (hF : 65540 < F) (hT : T ≤ 64) (hk : MGk σ0 T tO tn tb dr xs od on R) (hod : ∀ d, d ∈ od → d < xs.length) : Sm m h (MSd σ0 T tb xs.length) Any (f_M_countSymbols F m (mh m h σ0)) := by
  unfold f_M_countSymbols
  rw [Mp125 hm, bs]
  exact sm_cs7 hm hF hT hk hod T 0 F 1 _ (Nat.zero_add _) (by omega) (Nat.le_refl _) (by omega) (FR_mono (FR_I _ _ _) (by decide) (by decide) (by decide) (by decide)) (by rw [gI_sI, if_pos rfl]) (fun t' k' w1 => by omega)
end MCS
