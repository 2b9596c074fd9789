/-! the reference packs: it writes (steps spelled out by sf/pp.py) -/
/-- what pack reads of an object -/
def PKo (F m : Nat) (h : px_H) (B : Nat → Int32) (o n M : Nat) (D : Nat → Bool) (A E : Nat → Nat) : Prop := M ≤ 64 ∧ o + n ≤ 65536 ∧ (∀ σ, gA σ 6 = B → f_M_symbolMany F m (nI o) (mh m h σ) = some (nI M, mh m h σ)) ∧ ∀ k, 1 ≤ k → k < M → (∀ σ, gA σ 6 = B → f_M_isDefining F m (nI o) (nI k) (mh m h σ) = some (bI (D k), mh m h σ)) ∧ (D k = true → A k ≤ E k ∧ E k < 65536 ∧ ∀ σ, gA σ 6 = B → f_M_nameAt F m (nI o) (nI k) (mh m h σ) = some (nI (A k), mh m h σ) ∧ f_M_nameEnd F m (nI o) (nI k) (mh m h σ) = some (nI (E k), mh m h σ))
def pkN (D : Nat → Bool) (k : Nat) : Nat := if k = 0 then 0 else if D k = true then 1 else 0
def pkL (D : Nat → Bool) (A E : Nat → Nat) (k : Nat) : Nat := if k = 0 then 0 else if D k = true then E k - A k + 1 else 0
def pkM (M : Nat) : Nat := if M = 0 then 1 else M
def pkZ (n : Nat) : Nat := 60 + n + n % 2
theorem pkM_1 (M : Nat) : 1 ≤ pkM M ∧ M ≤ pkM M ∧ ∀ k, 1 ≤ k → k < pkM M → k < M := by
  unfold pkM
  by_cases c : M = 0
  · rw [if_pos c]; exact ⟨Nat.le_refl _, by omega, fun k h1 h2 => by omega⟩
  · rw [if_neg c]; exact ⟨by omega, Nat.le_refl _, fun k h1 h2 => h2⟩
theorem pkN_f {D : Nat → Bool} {k : Nat} (h : D k = false) : pkN D k = 0 := by
  unfold pkN
  by_cases c : k = 0
  · rw [if_pos c]
  · rw [if_neg c, if_neg (by rw [h]; decide)]
theorem pkN_t {D : Nat → Bool} {k : Nat} (h1 : 1 ≤ k) (h : D k = true) : pkN D k = 1 := by
  unfold pkN
  rw [if_neg (by omega), if_pos h]
theorem pkL_f {D : Nat → Bool} {A E : Nat → Nat} {k : Nat} (h : D k = false) : pkL D A E k = 0 := by
  unfold pkL
  by_cases c : k = 0
  · rw [if_pos c]
  · rw [if_neg c, if_neg (by rw [h]; decide)]
theorem pkL_t {D : Nat → Bool} {A E : Nat → Nat} {k : Nat} (h1 : 1 ≤ k) (h : D k = true) : pkL D A E k = E k - A k + 1 := by
  unfold pkL
  rw [if_neg (by omega), if_pos h]
theorem nI_m2 {n : Nat} (h : n < 2 ^ 30) : nI n - nI n / nI 2 * nI 2 = nI (n % 2) := by
  rw [nI_divG h (by decide), show nI (n / 2) * nI 2 = nI (n / 2 * 2) from (Int32.ofNat_mul _ _).symm, pk_sub (by omega)]
  congr 1
  omega
section MPW
variable {F m : Nat} {h : px_H} {σ0 σ : px_S} {c o n M T i : Nat} {D : Nat → Bool} {A E : Nat → Nat} {I : px_S → Prop}
theorem sm_pk339 {k272 : Nat → Int32 → Int32 → Int32 → Int32 → Int32 → px_H → Option (Int32 × px_H)} {k293 : Nat → Int32 → Int32 → Int32 → Int32 → Int32 → Int32 → Int32 → px_H → Option (Int32 × px_H)} {k p5 p7 q6 : Nat} (hm : m ≤ h.length) (hP : PKo F m h (gA σ0 6) o n M D A E) (h1 : 1 ≤ k) (hk : k < M) (hD : D k = true) (hq : q6 ≤ 65536) (hK : ∀ σ, OWi σ0 σ c → Sm m h I Any (k293 m (nI T) (nI p5) (nI q6) (nI p7) (nI i) (nI o) (nI (k + 1)) (mh m h σ))) : ∀ (d j f p6 : Nat) (σ : px_S), j + d = E k → d < f → p6 + d + 1 = q6 → OWi σ0 σ c → Sm m h I Any (f_M_pack_339 F k272 k293 f m (nI T) (nI p5) (nI p6) (nI p7) (nI i) (nI o) (nI k) (nI j) (mh m h σ)) := by
  obtain ⟨e1, e2, e3⟩ := (hP.2.2.2 k h1 hk).2 hD
  intro d
  induction d with
  | zero =>
    intro j f p6 σ hj hf hp hI
    obtain ⟨f, rfl⟩ : ∃ y, f = y + 1 := ⟨f - 1, by omega⟩
    unfold f_M_pack_339 f_M_pack_375 f_M_pack_378
    rw [e_o hm, bs, (e3 σ (OWi_6 hI)).2, xb_mk, if_pos (nI_le (by omega) (by omega)), nI_add, nI_add]
    obtain rfl : p6 + 1 = q6 := by omega
    exact hK σ hI
  | succ d ih =>
    intro j f p6 σ hj hf hp hI
    obtain ⟨f, rfl⟩ : ∃ y, f = y + 1 := ⟨f - 1, by omega⟩
    unfold f_M_pack_339
    rw [e_o hm, bs, (e3 σ (OWi_6 hI)).2, xb_mk, if_neg (nI_ge (by omega) (by omega)), Mr3 hm, bs, Mr6 hm, bs, Ma6 hm (by omega), bs, nI_add, nI_add]
    exact sm_w3 hm hI (by omega) (fun σ hi => ih (j + 1) f (p6 + 1) σ (by omega) (by omega) (by omega) hi)
theorem sm_pk293 {k272 : Nat → Int32 → Int32 → Int32 → Int32 → Int32 → px_H → Option (Int32 × px_H)} {P5 P6 p7 : Nat} (hm : m ≤ h.length) (hF : 65540 < F) (hP : PKo F m h (gA σ0 6) o n M D A E) (hq5 : P5 + 4 * sumT (pkN D) (pkM M) ≤ 65536) (hq6 : P6 + sumT (pkL D A E) (pkM M) ≤ 65536) (hK : ∀ σ, OWi σ0 σ c → Sm m h I Any (f_M_pack_384 F k272 m (nI T) (nI (P5 + 4 * sumT (pkN D) (pkM M))) (nI (P6 + sumT (pkL D A E) (pkM M))) (nI p7) (nI i) (nI o) (mh m h σ))) : ∀ (d k f : Nat) (σ : px_S), k + d = pkM M → 1 ≤ k → d < f → OWi σ0 σ c → Sm m h I Any (f_M_pack_293 F k272 f m (nI T) (nI (P5 + 4 * sumT (pkN D) k)) (nI (P6 + sumT (pkL D A E) k)) (nI p7) (nI i) (nI o) (nI k) (mh m h σ)) := by
  obtain ⟨m1, m2, m3⟩ := pkM_1 M
  have hM := hP.1
  have hMx : pkM M ≤ 64 := by unfold pkM; split <;> omega
  intro d
  induction d with
  | zero =>
    intro k f σ hk h1 hf hI
    obtain ⟨f, rfl⟩ : ∃ y, f = y + 1 := ⟨f - 1, by omega⟩
    obtain rfl : k = pkM M := by omega
    unfold f_M_pack_293
    rw [e_o hm, bs, hP.2.2.1 σ (OWi_6 hI), xb_mk, if_pos (nI_le (by omega) (by omega))]
    exact hK σ hI
  | succ d ih =>
    intro k f σ hk h1 hf hI
    obtain ⟨f, rfl⟩ : ∃ y, f = y + 1 := ⟨f - 1, by omega⟩
    have hkM := m3 k h1 (by omega)
    obtain ⟨r1, r2⟩ := hP.2.2.2 k h1 hkM
    have s5 := sumT_le (f := pkN D) (show k + 1 ≤ pkM M by omega)
    have s6 := sumT_le (f := pkL D A E) (show k + 1 ≤ pkM M by omega)
    have e5 : sumT (pkN D) (k + 1) = sumT (pkN D) k + pkN D k := rfl
    have e6 : sumT (pkL D A E) (k + 1) = sumT (pkL D A E) k + pkL D A E k := rfl
    have go := fun σ hi => ih (k + 1) f σ (by omega) (by omega) (by omega) hi
    rw [e5, e6] at go
    rw [e5] at s5
    rw [e6] at s6
    unfold f_M_pack_293
    rw [e_o hm, bs, hP.2.2.1 σ (OWi_6 hI), xb_mk, if_neg (nI_ge (by omega) (by omega)), e_o hm, bs, r1 σ (OWi_6 hI), xb_mk]
    cases hD : D k with
    | false =>
      rw [if_pos (show bI false = 0 from rfl)]
      unfold f_M_pack_378
      rw [nI_add]
      rw [pkN_f hD, pkL_f hD] at go
      exact go σ hI
    | true =>
      rw [if_neg (show ¬ bI true = 0 by decide)]
      obtain ⟨a1, a2, a3⟩ := r2 hD
      rw [pkN_t h1 hD, pkL_t h1 hD] at go
      rw [pkN_t h1 hD] at s5
      rw [pkL_t h1 hD] at s6
      generalize sumT (pkN D) k = S5 at *
      generalize sumT (pkL D A E) k = S6 at *
      generalize sumT (pkN D) (pkM M) = U5 at *
      generalize sumT (pkL D A E) (pkM M) = U6 at *
      unfold f_M_highFirst
      refine sm_o hm (fun _ => sm_x (sm_high (F := F) (p := P5 + 4 * S5) hm (by omega) 4 0 F σ rfl (by omega) hI) (fun _ σ _ hi => ?_))
      rw [e_o hm, bs, (a3 σ (OWi_6 hi)).1, xb_mk, nI_add]
      refine sm_pk339 (k := k) (q6 := P6 + (S6 + (E k - A k + 1))) hm hP h1 hkM hD (by omega) ?_ (E k - A k) (A k) F (P6 + S6) σ (by omega) (by omega) (by omega) hi
      rw [show P5 + 4 * S5 + 4 = P5 + 4 * (S5 + 1) by omega]
      exact go
theorem sm_pk435 {k272 : Nat → Int32 → Int32 → Int32 → Int32 → Int32 → px_H → Option (Int32 × px_H)} {p5 p6 p7 : Nat} (hm : m ≤ h.length) (hF : 65540 < F) (hi7 : i < 64) (e129 : gA σ0 129 i = nI n) (hon : o + n ≤ 65536) (hp : p7 + pkZ n ≤ 65536) (hK : ∀ σ, OWi σ0 σ c → Sm m h I Any (k272 m (nI T) (nI p5) (nI p6) (nI (p7 + pkZ n)) (nI (i + 1)) (mh m h σ))) : ∀ (d j f : Nat) (σ : px_S), j + d = n → d < f → OWi σ0 σ c → Sm m h I Any (f_M_pack_435 F k272 f m (nI T) (nI p5) (nI p6) (nI p7) (nI i) (nI o) (nI j) (mh m h σ)) := by
  have hz : pkZ n = 60 + n + n % 2 := rfl
  rw [hz] at hp hK
  intro d
  induction d with
  | zero =>
    intro j f σ hj hf hI
    obtain ⟨f, rfl⟩ : ∃ y, f = y + 1 := ⟨f - 1, by omega⟩
    have g : gA σ 129 i = nI n := by rw [hI.1.2.2.1 129 (by decide)]; exact e129
    unfold f_M_pack_435 f_M_pack_476 f_M_pack_525
    rw [Mr129 hm, bs, Ma129 hm (by omega), bs, g, if_pos (nI_le (by omega) (by omega)), bs, Ma129 hm (by omega), bs, bs, Ma129 hm (by omega), bs, bs, Ma129 hm (by omega), bs, g, nI_m2 (by omega), nI_add, nI_add, nI_add, nI_add]
    refine sm_i (fun _ => ?_) (fun _ => hK σ hI)
    rw [Mr3 hm, bs, pk_sub (by omega)]
    exact sm_w3 hm hI (by omega) hK
  | succ d ih =>
    intro j f σ hj hf hI
    obtain ⟨f, rfl⟩ : ∃ y, f = y + 1 := ⟨f - 1, by omega⟩
    have g : gA σ 129 i = nI n := by rw [hI.1.2.2.1 129 (by decide)]; exact e129
    unfold f_M_pack_435
    rw [Mr129 hm, bs, Ma129 hm (by omega), bs, g, if_neg (nI_ge (by omega) (by omega)), Mr3 hm, bs, Mr6 hm, bs, nI_add, Ma6 hm (by omega), bs, nI_add, nI_add, nI_add]
    exact sm_w3 hm hI (by omega) (fun σ hi => ih _ _ _ (by omega) (by omega) hi)
theorem sm_pk384 {k272 : Nat → Int32 → Int32 → Int32 → Int32 → Int32 → px_H → Option (Int32 × px_H)} {p5 p6 p7 : Nat} (hm : m ≤ h.length) (hF : 65540 < F) (hi7 : i < 64) (e129 : gA σ0 129 i = nI n) (hon : o + n ≤ 65536) (hp : p7 + pkZ n ≤ 65536) (hK : ∀ σ, OWi σ0 σ c → Sm m h I Any (k272 m (nI T) (nI p5) (nI p6) (nI (p7 + pkZ n)) (nI (i + 1)) (mh m h σ))) (hI : OWi σ0 σ c) : Sm m h I Any (f_M_pack_384 F k272 m (nI T) (nI p5) (nI p6) (nI p7) (nI i) (nI o) (mh m h σ)) := by
  have hz : pkZ n = 60 + n + n % 2 := rfl
  have g : gA σ 129 i = nI n := by rw [hI.1.2.2.1 129 (by decide)]; exact e129
  unfold f_M_pack_384 f_M_ahead
  rw [Mr129 hm, bs, Ma129 hm (by omega), bs, g]
  refine sm_o hm (fun _ => sm_x (sm_ahead_2 (F := F) (p := p7) (v := n) hm hF (by omega) (by omega) 58 0 F σ rfl (by omega) hI) (fun _ σ _ hi => ?_))
  rw [Mr3 hm, bs]
  refine sm_w3 hm hi (by omega) (fun σ hi => ?_)
  rw [Mr3 hm, bs, nI_add]
  refine sm_w3 hm hi (by omega) (fun σ hi => ?_)
  rw [Mr3 hm, bs, nI_add]
  refine sm_w3 hm hi (by omega) (fun σ hi => ?_)
  exact sm_pk435 hm hF hi7 e129 hon hp hK n 0 F σ (Nat.zero_add _) (by omega) hi
end MPW
