/-! the reference packs: what it answers (steps spelled out by sf/pp.py) -/
/-- what pack answers: N names of L letters, objects of Z bytes -/
def pkA (N L Z : Nat) : Int32 := if 68 + Z + (4 + 4 * N + L + (4 + 4 * N + L) % 2) ≤ 8192 then nI (68 + Z + (4 + 4 * N + L + (4 + 4 * N + L) % 2)) else Int32.ofInt (-1)
section QPW
variable {F m : Nat} {h : px_H} {σ0 σ : px_S} {c o n M T i : Nat} {D : Nat → Bool} {A E : Nat → Nat} {I : px_S → Prop} {V : Int32 → Prop}
theorem qx_pk339 {k272 : Nat → Int32 → Int32 → Int32 → Int32 → Int32 → px_H → Option (Int32 × px_H)} {k293 : Nat → Int32 → Int32 → Int32 → Int32 → Int32 → Int32 → Int32 → px_H → Option (Int32 × px_H)} {k p5 p7 q6 : Nat} (hm : m ≤ h.length) (hP : PKo F m h (gA σ0 6) o n M D A E) (h1 : 1 ≤ k) (hk : k < M) (hD : D k = true) (hq : q6 ≤ 65536) (hK : ∀ σ, OWi σ0 σ c → Sm m h I V (k293 m (nI T) (nI p5) (nI q6) (nI p7) (nI i) (nI o) (nI (k + 1)) (mh m h σ))) : ∀ (d j f p6 : Nat) (σ : px_S), j + d = E k → d < f → p6 + d + 1 = q6 → OWi σ0 σ c → Sm m h I V (f_M_pack_339 F k272 k293 f m (nI T) (nI p5) (nI p6) (nI p7) (nI i) (nI o) (nI k) (nI j) (mh m h σ)) := by
  obtain ⟨e1, e2, e3⟩ := (hP.2.2.2 k h1 hk).2 hD
  intro d
  induction d with
  | zero =>
    intro j f p6 σ hj hf hp hI
    obtain ⟨f, rfl⟩ : ∃ y, f = y + 1 := ⟨f - 1, by omega⟩
    unfold f_M_pack_339 f_M_pack_375 f_M_pack_378
    rw [e_o hm, bs, (e3 σ (OWi_6 hI)).2, xb_mk, if_pos (nI_le (by omega) (by omega)), nI_add, nI_add]
    obtain rfl : p6 + 1 = q6 := by omega
    exact hK σ hI
  | succ d ih =>
    intro j f p6 σ hj hf hp hI
    obtain ⟨f, rfl⟩ : ∃ y, f = y + 1 := ⟨f - 1, by omega⟩
    unfold f_M_pack_339
    rw [e_o hm, bs, (e3 σ (OWi_6 hI)).2, xb_mk, if_neg (nI_ge (by omega) (by omega)), Mr3 hm, bs, Mr6 hm, bs, Ma6 hm (by omega), bs, nI_add, nI_add]
    exact sm_w3 hm hI (by omega) (fun σ hi => ih (j + 1) f (p6 + 1) σ (by omega) (by omega) (by omega) hi)
theorem qx_pk293 {k272 : Nat → Int32 → Int32 → Int32 → Int32 → Int32 → px_H → Option (Int32 × px_H)} {P5 P6 p7 : Nat} (hm : m ≤ h.length) (hF : 65540 < F) (hP : PKo F m h (gA σ0 6) o n M D A E) (hq5 : P5 + 4 * sumT (pkN D) (pkM M) ≤ 65536) (hq6 : P6 + sumT (pkL D A E) (pkM M) ≤ 65536) (hK : ∀ σ, OWi σ0 σ c → Sm m h I V (f_M_pack_384 F k272 m (nI T) (nI (P5 + 4 * sumT (pkN D) (pkM M))) (nI (P6 + sumT (pkL D A E) (pkM M))) (nI p7) (nI i) (nI o) (mh m h σ))) : ∀ (d k f : Nat) (σ : px_S), k + d = pkM M → 1 ≤ k → d < f → OWi σ0 σ c → Sm m h I V (f_M_pack_293 F k272 f m (nI T) (nI (P5 + 4 * sumT (pkN D) k)) (nI (P6 + sumT (pkL D A E) k)) (nI p7) (nI i) (nI o) (nI k) (mh m h σ)) := by
  obtain ⟨m1, m2, m3⟩ := pkM_1 M
  have hM := hP.1
  have hMx : pkM M ≤ 64 := by unfold pkM; split <;> omega
  intro d
  induction d with
  | zero =>
    intro k f σ hk h1 hf hI
    obtain ⟨f, rfl⟩ : ∃ y, f = y + 1 := ⟨f - 1, by omega⟩
    obtain rfl : k = pkM M := by omega
    unfold f_M_pack_293
    rw [e_o hm, bs, hP.2.2.1 σ (OWi_6 hI), xb_mk, if_pos (nI_le (by omega) (by omega))]
    exact hK σ hI
  | succ d ih =>
    intro k f σ hk h1 hf hI
    obtain ⟨f, rfl⟩ : ∃ y, f = y + 1 := ⟨f - 1, by omega⟩
    have hkM := m3 k h1 (by omega)
    obtain ⟨r1, r2⟩ := hP.2.2.2 k h1 hkM
    have s5 := sumT_le (f := pkN D) (show k + 1 ≤ pkM M by omega)
    have s6 := sumT_le (f := pkL D A E) (show k + 1 ≤ pkM M by omega)
    have e5 : sumT (pkN D) (k + 1) = sumT (pkN D) k + pkN D k := rfl
    have e6 : sumT (pkL D A E) (k + 1) = sumT (pkL D A E) k + pkL D A E k := rfl
    have go := fun σ hi => ih (k + 1) f σ (by omega) (by omega) (by omega) hi
    rw [e5, e6] at go
    rw [e5] at s5
    rw [e6] at s6
    unfold f_M_pack_293
    rw [e_o hm, bs, hP.2.2.1 σ (OWi_6 hI), xb_mk, if_neg (nI_ge (by omega) (by omega)), e_o hm, bs, r1 σ (OWi_6 hI), xb_mk]
    cases hD : D k with
    | false =>
      rw [if_pos (show bI false = 0 from rfl)]
      unfold f_M_pack_378
      rw [nI_add]
      rw [pkN_f hD, pkL_f hD] at go
      exact go σ hI
    | true =>
      rw [if_neg (show ¬ bI true = 0 by decide)]
      obtain ⟨a1, a2, a3⟩ := r2 hD
      rw [pkN_t h1 hD, pkL_t h1 hD] at go
      rw [pkN_t h1 hD] at s5
      rw [pkL_t h1 hD] at s6
      generalize sumT (pkN D) k = S5 at *
      generalize sumT (pkL D A E) k = S6 at *
      generalize sumT (pkN D) (pkM M) = U5 at *
      generalize sumT (pkL D A E) (pkM M) = U6 at *
      unfold f_M_highFirst
      refine sm_o hm (fun _ => sm_x (sm_high (F := F) (p := P5 + 4 * S5) hm (by omega) 4 0 F σ rfl (by omega) hI) (fun _ σ _ hi => ?_))
      rw [e_o hm, bs, (a3 σ (OWi_6 hi)).1, xb_mk, nI_add]
      refine qx_pk339 (k := k) (q6 := P6 + (S6 + (E k - A k + 1))) hm hP h1 hkM hD (by omega) ?_ (E k - A k) (A k) F (P6 + S6) σ (by omega) (by omega) (by omega) hi
      rw [show P5 + 4 * S5 + 4 = P5 + 4 * (S5 + 1) by omega]
      exact go
theorem qx_pk435 {k272 : Nat → Int32 → Int32 → Int32 → Int32 → Int32 → px_H → Option (Int32 × px_H)} {p5 p6 p7 : Nat} (hm : m ≤ h.length) (hF : 65540 < F) (hi7 : i < 64) (e129 : gA σ0 129 i = nI n) (hon : o + n ≤ 65536) (hp : p7 + pkZ n ≤ 65536) (hK : ∀ σ, OWi σ0 σ c → Sm m h I V (k272 m (nI T) (nI p5) (nI p6) (nI (p7 + pkZ n)) (nI (i + 1)) (mh m h σ))) : ∀ (d j f : Nat) (σ : px_S), j + d = n → d < f → OWi σ0 σ c → Sm m h I V (f_M_pack_435 F k272 f m (nI T) (nI p5) (nI p6) (nI p7) (nI i) (nI o) (nI j) (mh m h σ)) := by
  have hz : pkZ n = 60 + n + n % 2 := rfl
  rw [hz] at hp hK
  intro d
  induction d with
  | zero =>
    intro j f σ hj hf hI
    obtain ⟨f, rfl⟩ : ∃ y, f = y + 1 := ⟨f - 1, by omega⟩
    have g : gA σ 129 i = nI n := by rw [hI.1.2.2.1 129 (by decide)]; exact e129
    unfold f_M_pack_435 f_M_pack_476 f_M_pack_525
    rw [Mr129 hm, bs, Ma129 hm (by omega), bs, g, if_pos (nI_le (by omega) (by omega)), bs, Ma129 hm (by omega), bs, bs, Ma129 hm (by omega), bs, bs, Ma129 hm (by omega), bs, g, nI_m2 (by omega), nI_add, nI_add, nI_add, nI_add]
    refine sm_i (fun _ => ?_) (fun _ => hK σ hI)
    rw [Mr3 hm, bs, pk_sub (by omega)]
    exact sm_w3 hm hI (by omega) hK
  | succ d ih =>
    intro j f σ hj hf hI
    obtain ⟨f, rfl⟩ : ∃ y, f = y + 1 := ⟨f - 1, by omega⟩
    have g : gA σ 129 i = nI n := by rw [hI.1.2.2.1 129 (by decide)]; exact e129
    unfold f_M_pack_435
    rw [Mr129 hm, bs, Ma129 hm (by omega), bs, g, if_neg (nI_ge (by omega) (by omega)), Mr3 hm, bs, Mr6 hm, bs, nI_add, Ma6 hm (by omega), bs, nI_add, nI_add, nI_add]
    exact sm_w3 hm hI (by omega) (fun σ hi => ih _ _ _ (by omega) (by omega) hi)
theorem qx_pk384 {k272 : Nat → Int32 → Int32 → Int32 → Int32 → Int32 → px_H → Option (Int32 × px_H)} {p5 p6 p7 : Nat} (hm : m ≤ h.length) (hF : 65540 < F) (hi7 : i < 64) (e129 : gA σ0 129 i = nI n) (hon : o + n ≤ 65536) (hp : p7 + pkZ n ≤ 65536) (hK : ∀ σ, OWi σ0 σ c → Sm m h I V (k272 m (nI T) (nI p5) (nI p6) (nI (p7 + pkZ n)) (nI (i + 1)) (mh m h σ))) (hI : OWi σ0 σ c) : Sm m h I V (f_M_pack_384 F k272 m (nI T) (nI p5) (nI p6) (nI p7) (nI i) (nI o) (mh m h σ)) := by
  have hz : pkZ n = 60 + n + n % 2 := rfl
  have g : gA σ 129 i = nI n := by rw [hI.1.2.2.1 129 (by decide)]; exact e129
  unfold f_M_pack_384 f_M_ahead
  rw [Mr129 hm, bs, Ma129 hm (by omega), bs, g]
  refine sm_o hm (fun _ => sm_x (sm_ahead_2 (F := F) (p := p7) (v := n) hm hF (by omega) (by omega) 58 0 F σ rfl (by omega) hI) (fun _ σ _ hi => ?_))
  rw [Mr3 hm, bs]
  refine sm_w3 hm hi (by omega) (fun σ hi => ?_)
  rw [Mr3 hm, bs, nI_add]
  refine sm_w3 hm hi (by omega) (fun σ hi => ?_)
  rw [Mr3 hm, bs, nI_add]
  refine sm_w3 hm hi (by omega) (fun σ hi => ?_)
  exact qx_pk435 hm hF hi7 e129 hon hp hK n 0 F σ (Nat.zero_add _) (by omega) hi
end QPW
section QPX
variable {F m : Nat} {h : px_H} {σ0 σ : px_S} {cc c T : Nat} {of nf Mf : Nat → Nat} {Df : Nat → Nat → Bool} {Af Ef : Nat → Nat → Nat}
theorem qx_pk272 {P5 P6 P7 : Nat} (hm : m ≤ h.length) (hF : 65540 < F) (hP : PKs F m h σ0 c of nf Mf Df Af Ef) (hcc : cc ≤ 65536) (h5 : P5 + 4 * sumT (pkNN Mf Df) c ≤ 65536) (h6 : P6 + sumT (pkLL Mf Df Af Ef) c ≤ 65536) (h7 : P7 + sumT (pkZZ nf) c ≤ 65536) : ∀ (d i f : Nat) (σ : px_S), i + d = c → d < f → OWi σ0 σ cc → Sm m h (OWe σ0) (fun v => v = nI T) (f_M_pack_272 F f m (nI T) (nI (P5 + 4 * sumT (pkNN Mf Df) i)) (nI (P6 + sumT (pkLL Mf Df Af Ef) i)) (nI (P7 + sumT (pkZZ nf) i)) (nI i) (mh m h σ)) := by
  obtain ⟨hc7, e127, hO⟩ := hP
  intro d
  induction d with
  | zero =>
    intro i f σ hi hf hI
    obtain ⟨f, rfl⟩ : ∃ y, f = y + 1 := ⟨f - 1, by omega⟩
    unfold f_M_pack_272 f_M_pack_531
    rw [Mg127 hm, bs, hI.1.1 127 (by decide), e127, if_pos (nI_le (by omega) (by omega))]
    exact sm_r rfl ⟨cc, hcc, hI⟩
  | succ d ih =>
    intro i f σ hi hf hI
    obtain ⟨f, rfl⟩ : ∃ y, f = y + 1 := ⟨f - 1, by omega⟩
    obtain ⟨e128, e129, hPo⟩ := hO i (by omega)
    have s5 := sumT_le (f := pkNN Mf Df) (show i + 1 ≤ c by omega)
    have s6 := sumT_le (f := pkLL Mf Df Af Ef) (show i + 1 ≤ c by omega)
    have s7 := sumT_le (f := pkZZ nf) (show i + 1 ≤ c by omega)
    have e5 : sumT (pkNN Mf Df) (i + 1) = sumT (pkNN Mf Df) i + sumT (pkN (Df i)) (pkM (Mf i)) := rfl
    have e6 : sumT (pkLL Mf Df Af Ef) (i + 1) = sumT (pkLL Mf Df Af Ef) i + sumT (pkL (Df i) (Af i) (Ef i)) (pkM (Mf i)) := rfl
    have e7 : sumT (pkZZ nf) (i + 1) = sumT (pkZZ nf) i + pkZ (nf i) := rfl
    have go := fun σ hi => ih (i + 1) f σ (by omega) (by omega) hi
    rw [e5, e6, e7] at go
    rw [e5] at s5
    rw [e6] at s6
    rw [e7] at s7
    unfold f_M_pack_272
    rw [Mg127 hm, bs, hI.1.1 127 (by decide), e127, if_neg (nI_ge (by omega) (by omega)), Mr128 hm, bs, Ma128 hm (by omega), bs, hI.1.2.2.1 128 (by decide), e128]
    generalize sumT (pkNN Mf Df) i = S5 at *
    generalize sumT (pkLL Mf Df Af Ef) i = S6 at *
    generalize sumT (pkZZ nf) i = S7 at *
    generalize sumT (pkNN Mf Df) c = U5 at *
    generalize sumT (pkLL Mf Df Af Ef) c = U6 at *
    generalize sumT (pkZZ nf) c = U7 at *
    have hM := hPo.1
    obtain ⟨m1, m2, m3⟩ := pkM_1 (Mf i)
    have hMx : pkM (Mf i) ≤ 64 := by unfold pkM; split <;> omega
    have z0 : sumT (pkN (Df i)) 1 = 0 := rfl
    have z1 : sumT (pkL (Df i) (Af i) (Ef i)) 1 = 0 := rfl
    have w := qx_pk293 (σ0 := σ0) (c := cc) (T := T) (i := i) (I := OWe σ0) (V := fun v => v = nI T) (k272 := f_M_pack_272 F f) (P5 := P5 + 4 * S5) (P6 := P6 + S6) (p7 := P7 + S7) hm hF hPo (by omega) (by omega) (fun σ hi => qx_pk384 hm hF (by omega) e129 hPo.2.1 (by omega) (fun σ hi => by
      have g := go σ hi
      rw [show P5 + 4 * (S5 + sumT (pkN (Df i)) (pkM (Mf i))) = P5 + 4 * S5 + 4 * sumT (pkN (Df i)) (pkM (Mf i)) by omega, ← Nat.add_assoc P6, ← Nat.add_assoc P7] at g
      exact g) hi) (pkM (Mf i) - 1) 1 F σ (by omega) (by omega) (by omega) hI
    rw [z0, z1] at w
    exact w
theorem qx_pk269 {N L Z a4 : Nat} (hm : m ≤ h.length) (hF : 65540 < F) (hP : PKs F m h σ0 c of nf Mf Df Af Ef) (hcc : cc ≤ 65536) (eN : N = sumT (pkNN Mf Df) c) (eL : L = sumT (pkLL Mf Df Af Ef) c) (eZ : Z = sumT (pkZZ nf) c) (e4 : a4 = 4 + 4 * N + L) (hT : 68 + Z + (a4 + a4 % 2) ≤ 8192) (hI : OWi σ0 σ cc) : Sm m h (OWe σ0) (fun v => v = nI T) (f_M_pack_269 F m (nI T) (nI 72) (nI (72 + 4 * N)) (nI (68 + a4 + a4 % 2)) (mh m h σ)) := by
  have hc := hP.1
  unfold f_M_pack_269
  exact qx_pk272 (P5 := 72) (P6 := 72 + 4 * N) (P7 := 68 + a4 + a4 % 2) hm hF hP hcc (by rw [← eN]; omega) (by rw [← eL]; omega) (by rw [← eZ]; omega) c 0 F σ (Nat.zero_add _) (by omega) hI
theorem qx_pk187 {N L Z a4 : Nat} (hm : m ≤ h.length) (hF : 65540 < F) (hP : PKs F m h σ0 c of nf Mf Df Af Ef) (eN : N = sumT (pkNN Mf Df) c) (eL : L = sumT (pkLL Mf Df Af Ef) c) (eZ : Z = sumT (pkZZ nf) c) (e4 : a4 = 4 + 4 * N + L) (eT : T = 68 + Z + (a4 + a4 % 2)) (hT : T ≤ 8192) (hI : OWi σ0 σ cc) : Sm m h (OWe σ0) (fun v => v = nI T) (f_M_pack_187 F m (nI N) (nI T) (nI a4) (mh m h σ)) := by
  have fin : ∀ σ, OWi σ0 σ T → Sm m h (OWe σ0) (fun v => v = nI T) (f_M_pack_269 F m (nI T) (nI 72) (nI (72 + 4 * N)) (nI (68 + a4 + a4 % 2)) (mh m h σ)) := fun σ hi => qx_pk269 hm hF hP (by omega) eN eL eZ e4 (by omega) hi
  unfold f_M_pack_187
  refine sm_p4 hm hI (fun σ hi => ?_)
  obtain ⟨σ', e, w1, w2⟩ := q_put (F := F) (σ := σ) (at0 := 0) (n := 8) (v := (738142165265366049 : Int64)) hm (by omega) (by decide) hi.2.2
  have hi' : OWi σ0 σ' T := ⟨FR_trans hi.1 (FR_mono w1 (by decide) (by decide) (by decide) (by decide)), (w1.1 4 List.not_mem_nil).trans hi.2.1, w2⟩
  refine sm_o hm (fun _ => ?_)
  rw [e, xb_mk]
  unfold f_M_ahead f_M_highFirst
  refine sm_o hm (fun _ => sm_x (sm_ahead_2 (F := F) (p := 8) (v := a4) hm hF (by omega) (by omega) 58 0 F σ' rfl (by omega) hi') (fun _ σ _ hi => ?_))
  rw [Mr3 hm, bs]
  refine sm_w3 hm hi (by omega) (fun σ hi => ?_)
  refine sm_o hm (fun _ => sm_x (sm_high (F := F) (p := 68) hm (by omega) 4 0 F σ rfl (by omega) hi) (fun _ σ _ hi => ?_))
  rw [nI_m2 (by omega), nI_add, nI_add, show nI 4 * nI N = nI (4 * N) from (Int32.ofNat_mul _ _).symm, nI_add]
  refine sm_i (fun _ => ?_) (fun _ => fin σ hi)
  rw [Mr3 hm, bs, pk_sub (by omega)]
  exact sm_w3 hm hi (by omega) fin
theorem qx_pk167 {N L Z a4 : Nat} (hm : m ≤ h.length) (hF : 65540 < F) (hP : PKs F m h σ0 c of nf Mf Df Af Ef) (eN : N = sumT (pkNN Mf Df) c) (eL : L = sumT (pkLL Mf Df Af Ef) c) (eZ : Z = sumT (pkZZ nf) c) (e4 : a4 = 4 + 4 * N + L) (eT : T = 68 + Z + (a4 + a4 % 2)) (hT : T ≤ 8192) : ∀ (d j f : Nat) (σ : px_S), j + d = T → d < f → OWi σ0 σ cc → Sm m h (OWe σ0) (fun v => v = nI T) (f_M_pack_167 F f m (nI N) (nI T) (nI a4) (nI j) (mh m h σ)) := by
  intro d
  induction d with
  | zero =>
    intro j f σ hj hf hI
    obtain ⟨f, rfl⟩ : ∃ y, f = y + 1 := ⟨f - 1, by omega⟩
    unfold f_M_pack_167
    rw [if_pos (nI_le (by omega) (by omega))]
    exact qx_pk187 hm hF hP eN eL eZ e4 eT hT hI
  | succ d ih =>
    intro j f σ hj hf hI
    obtain ⟨f, rfl⟩ : ∃ y, f = y + 1 := ⟨f - 1, by omega⟩
    unfold f_M_pack_167
    rw [if_neg (nI_ge (by omega) (by omega)), Mr3 hm, bs, nI_add]
    exact sm_w3 hm hI (by omega) (fun σ hi => ih _ _ _ (by omega) (by omega) hi)
theorem qx_pk136 (hm : m ≤ h.length) (hF : 65540 < F) (hP : PKs F m h σ0 c of nf Mf Df Af Ef) (hcc : cc ≤ 65536) (hI : OWi σ0 σ cc) : Sm m h (OWe σ0) (fun v => v = pkA (sumT (pkNN Mf Df) c) (sumT (pkLL Mf Df Af Ef) c) (sumT (pkZZ nf) c)) (f_M_pack_136 F m (nI (sumT (pkNN Mf Df) c)) (nI (sumT (pkLL Mf Df Af Ef) c)) (nI (68 + sumT (pkZZ nf) c)) (mh m h σ)) := by
  obtain ⟨b1, b2, b3⟩ := pk_bnd hP
  have key : ∀ N L Z, N = sumT (pkNN Mf Df) c → L = sumT (pkLL Mf Df Af Ef) c → Z = sumT (pkZZ nf) c → Sm m h (OWe σ0) (fun v => v = pkA N L Z) (f_M_pack_136 F m (nI N) (nI L) (nI (68 + Z)) (mh m h σ)) := fun N L Z eN eL eZ => by
    rw [← eN] at b1
    rw [← eL] at b2
    rw [← eZ] at b3
    unfold f_M_pack_136 pkA
    rw [show nI 4 * nI N = nI (4 * N) from (Int32.ofNat_mul _ _).symm, nI_add, nI_add, nI_m2 (by omega), nI_add, nI_add]
    by_cases hT : 68 + Z + (4 + 4 * N + L + (4 + 4 * N + L) % 2) ≤ 8192
    · rw [if_pos (nI_le hT (by decide)), if_pos hT]
      exact qx_pk167 hm hF hP eN eL eZ rfl rfl hT _ 0 F σ (Nat.zero_add _) (by omega) hI
    · rw [if_neg (nI_ge (a := 8192) (by omega) (by omega)), if_neg hT]
      exact sm_r rfl ⟨cc, hcc, hI⟩
  exact key _ _ _ rfl rfl rfl
end QPX
section QPY
variable {F m : Nat} {h : px_H} {σ0 σ : px_S} {cc c T i o n M : Nat} {of nf Mf : Nat → Nat} {Df : Nat → Nat → Bool} {Af Ef : Nat → Nat → Nat} {D : Nat → Bool} {A E : Nat → Nat} {I : px_S → Prop} {V : Int32 → Prop} {fs : px_FS}
theorem qx_pk51 {k30 : Nat → Int32 → Int32 → Int32 → Int32 → px_H → Option (Int32 × px_H)} {N L S : Nat} (hm : m ≤ h.length) (hP : PKo F m h (gA σ 6) o n M D A E) (hi7 : i < 64) (e129 : gA σ 129 i = nI n) (hK : Sm m h I V (k30 m (nI (N + sumT (pkN D) (pkM M))) (nI (L + sumT (pkL D A E) (pkM M))) (nI (S + pkZ n)) (nI (i + 1)) (mh m h σ))) : ∀ (d k f : Nat), k + d = pkM M → 1 ≤ k → d < f → Sm m h I V (f_M_pack_51 F k30 f m (nI (N + sumT (pkN D) k)) (nI (L + sumT (pkL D A E) k)) (nI S) (nI i) (nI o) (nI k) (mh m h σ)) := by
  obtain ⟨m1, m2, m3⟩ := pkM_1 M
  have hM := hP.1
  have hon := hP.2.1
  have hMx : pkM M ≤ 64 := by unfold pkM; split <;> omega
  intro d
  induction d with
  | zero =>
    intro k f hk h1 hf
    obtain ⟨f, rfl⟩ : ∃ y, f = y + 1 := ⟨f - 1, by omega⟩
    obtain rfl : k = pkM M := by omega
    have hz : pkZ n = 60 + n + n % 2 := rfl
    rw [hz] at hK
    unfold f_M_pack_51 f_M_pack_107
    rw [e_o hm, bs, hP.2.2.1 σ rfl, xb_mk, if_pos (nI_le (by omega) (by omega)), Mr129 hm, bs, Ma129 hm (by omega), bs, bs, Ma129 hm (by omega), bs, e129, nI_m2 (by omega), nI_add, nI_add, nI_add, nI_add]
    exact hK
  | succ d ih =>
    intro k f hk h1 hf
    obtain ⟨f, rfl⟩ : ∃ y, f = y + 1 := ⟨f - 1, by omega⟩
    have hkM := m3 k h1 (by omega)
    obtain ⟨r1, r2⟩ := hP.2.2.2 k h1 hkM
    have e5 : sumT (pkN D) (k + 1) = sumT (pkN D) k + pkN D k := rfl
    have e6 : sumT (pkL D A E) (k + 1) = sumT (pkL D A E) k + pkL D A E k := rfl
    have go := ih (k + 1) f (by omega) (by omega) (by omega)
    rw [e5, e6] at go
    unfold f_M_pack_51 f_M_pack_101
    rw [e_o hm, bs, hP.2.2.1 σ rfl, xb_mk, if_neg (nI_ge (by omega) (by omega)), e_o hm, bs, r1 σ rfl, xb_mk]
    cases hD : D k with
    | false =>
      rw [if_pos (show bI false = 0 from rfl), nI_add]
      rw [pkN_f hD, pkL_f hD] at go
      exact go
    | true =>
      rw [if_neg (show ¬ bI true = 0 by decide)]
      obtain ⟨a1, a2, a3⟩ := r2 hD
      rw [pkN_t h1 hD, pkL_t h1 hD] at go
      rw [e_o hm, bs, (a3 σ rfl).2, xb_mk, e_o hm, bs, (a3 σ rfl).1, xb_mk, pk_sub (by omega), nI_add, nI_add, nI_add, nI_add, Nat.add_assoc, Nat.add_assoc]
      exact go
theorem qx_pk30 (hm : m ≤ h.length) (hF : 65540 < F) (hP : PKs F m h σ c of nf Mf Df Af Ef) (ho : OUo σ) : ∀ (d i f : Nat), i + d = c → d < f → Sm m h (OWe σ) (fun v => v = pkA (sumT (pkNN Mf Df) c) (sumT (pkLL Mf Df Af Ef) c) (sumT (pkZZ nf) c)) (f_M_pack_30 F f m (nI (sumT (pkNN Mf Df) i)) (nI (sumT (pkLL Mf Df Af Ef) i)) (nI (68 + sumT (pkZZ nf) i)) (nI i) (mh m h σ)) := by
  have hP' := hP
  obtain ⟨hc7, e127, hO⟩ := hP
  intro d
  induction d with
  | zero =>
    intro i f hi hf
    obtain ⟨f, rfl⟩ : ∃ y, f = y + 1 := ⟨f - 1, by omega⟩
    obtain rfl : i = c := by omega
    obtain ⟨cc, hcc, hI⟩ := OWe_0 ho (FR_refl σ)
    unfold f_M_pack_30
    rw [Mg127 hm, bs, e127, if_pos (nI_le (by omega) (by omega))]
    exact qx_pk136 hm hF hP' hcc hI
  | succ d ih =>
    intro i f hi hf
    obtain ⟨f, rfl⟩ : ∃ y, f = y + 1 := ⟨f - 1, by omega⟩
    obtain ⟨e128, e129, hPo⟩ := hO i (by omega)
    have e5 : sumT (pkNN Mf Df) (i + 1) = sumT (pkNN Mf Df) i + sumT (pkN (Df i)) (pkM (Mf i)) := rfl
    have e6 : sumT (pkLL Mf Df Af Ef) (i + 1) = sumT (pkLL Mf Df Af Ef) i + sumT (pkL (Df i) (Af i) (Ef i)) (pkM (Mf i)) := rfl
    have e7 : sumT (pkZZ nf) (i + 1) = sumT (pkZZ nf) i + pkZ (nf i) := rfl
    have go := ih (i + 1) f (by omega) (by omega)
    rw [e5, e6, e7, ← Nat.add_assoc] at go
    unfold f_M_pack_30
    rw [Mg127 hm, bs, e127, if_neg (nI_ge (by omega) (by omega)), Mr128 hm, bs, Ma128 hm (by omega), bs, e128]
    have hM := hPo.1
    obtain ⟨m1, m2, m3⟩ := pkM_1 (Mf i)
    have hMx : pkM (Mf i) ≤ 64 := by unfold pkM; split <;> omega
    have z0 : sumT (pkN (Df i)) 1 = 0 := rfl
    have z1 : sumT (pkL (Df i) (Af i) (Ef i)) 1 = 0 := rfl
    have w := qx_pk51 (i := i) (I := OWe σ) (k30 := f_M_pack_30 F f) (N := sumT (pkNN Mf Df) i) (L := sumT (pkLL Mf Df Af Ef) i) (S := 68 + sumT (pkZZ nf) i) hm hPo (by omega) e129 go (pkM (Mf i) - 1) 1 F (by omega) (by omega) (by omega)
    rw [z0, z1] at w
    exact w
end QPY
