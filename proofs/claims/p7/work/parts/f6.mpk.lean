/-! the reference packs (steps spelled out by sf/pp.py) -/
def PKs (F m : Nat) (h : px_H) (σ : px_S) (c : Nat) (of nf Mf : Nat → Nat) (Df : Nat → Nat → Bool) (Af Ef : Nat → Nat → Nat) : Prop := c ≤ 7 ∧ gI σ 127 = nI c ∧ ∀ i, i < c → gA σ 128 i = nI (of i) ∧ gA σ 129 i = nI (nf i) ∧ PKo F m h (gA σ 6) (of i) (nf i) (Mf i) (Df i) (Af i) (Ef i)
def pkNN (Mf : Nat → Nat) (Df : Nat → Nat → Bool) (j : Nat) : Nat := sumT (pkN (Df j)) (pkM (Mf j))
def pkLL (Mf : Nat → Nat) (Df : Nat → Nat → Bool) (Af Ef : Nat → Nat → Nat) (j : Nat) : Nat := sumT (pkL (Df j) (Af j) (Ef j)) (pkM (Mf j))
def pkZZ (nf : Nat → Nat) (j : Nat) : Nat := pkZ (nf j)
/-- what pack changes -/
def PKe (σ0 σ : px_S) : Prop := FR [0, 4, 127] [] [3, 128, 129] [] σ0 σ ∧ OUo σ
section MPX
variable {F m : Nat} {h : px_H} {σ0 σ : px_S} {cc c T : Nat} {of nf Mf : Nat → Nat} {Df : Nat → Nat → Bool} {Af Ef : Nat → Nat → Nat}
theorem sm_pk272 {P5 P6 P7 : Nat} (hm : m ≤ h.length) (hF : 65540 < F) (hP : PKs F m h σ0 c of nf Mf Df Af Ef) (hcc : cc ≤ 65536) (h5 : P5 + 4 * sumT (pkNN Mf Df) c ≤ 65536) (h6 : P6 + sumT (pkLL Mf Df Af Ef) c ≤ 65536) (h7 : P7 + sumT (pkZZ nf) c ≤ 65536) : ∀ (d i f : Nat) (σ : px_S), i + d = c → d < f → OWi σ0 σ cc → Sm m h (OWe σ0) Any (f_M_pack_272 F f m (nI T) (nI (P5 + 4 * sumT (pkNN Mf Df) i)) (nI (P6 + sumT (pkLL Mf Df Af Ef) i)) (nI (P7 + sumT (pkZZ nf) i)) (nI i) (mh m h σ)) := by
  obtain ⟨hc7, e127, hO⟩ := hP
  intro d
  induction d with
  | zero =>
    intro i f σ hi hf hI
    obtain ⟨f, rfl⟩ : ∃ y, f = y + 1 := ⟨f - 1, by omega⟩
    unfold f_M_pack_272 f_M_pack_531
    rw [Mg127 hm, bs, hI.1.1 127 (by decide), e127, if_pos (nI_le (by omega) (by omega))]
    exact sm_r any ⟨cc, hcc, hI⟩
  | succ d ih =>
    intro i f σ hi hf hI
    obtain ⟨f, rfl⟩ : ∃ y, f = y + 1 := ⟨f - 1, by omega⟩
    obtain ⟨e128, e129, hPo⟩ := hO i (by omega)
    have s5 := sumT_le (f := pkNN Mf Df) (show i + 1 ≤ c by omega)
    have s6 := sumT_le (f := pkLL Mf Df Af Ef) (show i + 1 ≤ c by omega)
    have s7 := sumT_le (f := pkZZ nf) (show i + 1 ≤ c by omega)
    have e5 : sumT (pkNN Mf Df) (i + 1) = sumT (pkNN Mf Df) i + sumT (pkN (Df i)) (pkM (Mf i)) := rfl
    have e6 : sumT (pkLL Mf Df Af Ef) (i + 1) = sumT (pkLL Mf Df Af Ef) i + sumT (pkL (Df i) (Af i) (Ef i)) (pkM (Mf i)) := rfl
    have e7 : sumT (pkZZ nf) (i + 1) = sumT (pkZZ nf) i + pkZ (nf i) := rfl
    have go := fun σ hi => ih (i + 1) f σ (by omega) (by omega) hi
    rw [e5, e6, e7] at go
    rw [e5] at s5
    rw [e6] at s6
    rw [e7] at s7
    unfold f_M_pack_272
    rw [Mg127 hm, bs, hI.1.1 127 (by decide), e127, if_neg (nI_ge (by omega) (by omega)), Mr128 hm, bs, Ma128 hm (by omega), bs, hI.1.2.2.1 128 (by decide), e128]
    generalize sumT (pkNN Mf Df) i = S5 at *
    generalize sumT (pkLL Mf Df Af Ef) i = S6 at *
    generalize sumT (pkZZ nf) i = S7 at *
    generalize sumT (pkNN Mf Df) c = U5 at *
    generalize sumT (pkLL Mf Df Af Ef) c = U6 at *
    generalize sumT (pkZZ nf) c = U7 at *
    have hM := hPo.1
    obtain ⟨m1, m2, m3⟩ := pkM_1 (Mf i)
    have hMx : pkM (Mf i) ≤ 64 := by unfold pkM; split <;> omega
    have z0 : sumT (pkN (Df i)) 1 = 0 := rfl
    have z1 : sumT (pkL (Df i) (Af i) (Ef i)) 1 = 0 := rfl
    have w := sm_pk293 (σ0 := σ0) (c := cc) (T := T) (i := i) (I := OWe σ0) (k272 := f_M_pack_272 F f) (P5 := P5 + 4 * S5) (P6 := P6 + S6) (p7 := P7 + S7) hm hF hPo (by omega) (by omega) (fun σ hi => sm_pk384 hm hF (by omega) e129 hPo.2.1 (by omega) (fun σ hi => by
      have g := go σ hi
      rw [show P5 + 4 * (S5 + sumT (pkN (Df i)) (pkM (Mf i))) = P5 + 4 * S5 + 4 * sumT (pkN (Df i)) (pkM (Mf i)) by omega, ← Nat.add_assoc P6, ← Nat.add_assoc P7] at g
      exact g) hi) (pkM (Mf i) - 1) 1 F σ (by omega) (by omega) (by omega) hI
    rw [z0, z1] at w
    exact w
theorem sm_pk269 {N L Z a4 : Nat} (hm : m ≤ h.length) (hF : 65540 < F) (hP : PKs F m h σ0 c of nf Mf Df Af Ef) (hcc : cc ≤ 65536) (eN : N = sumT (pkNN Mf Df) c) (eL : L = sumT (pkLL Mf Df Af Ef) c) (eZ : Z = sumT (pkZZ nf) c) (e4 : a4 = 4 + 4 * N + L) (hT : 68 + Z + (a4 + a4 % 2) ≤ 8192) (hI : OWi σ0 σ cc) : Sm m h (OWe σ0) Any (f_M_pack_269 F m (nI T) (nI 72) (nI (72 + 4 * N)) (nI (68 + a4 + a4 % 2)) (mh m h σ)) := by
  have hc := hP.1
  unfold f_M_pack_269
  exact sm_pk272 (P5 := 72) (P6 := 72 + 4 * N) (P7 := 68 + a4 + a4 % 2) hm hF hP hcc (by rw [← eN]; omega) (by rw [← eL]; omega) (by rw [← eZ]; omega) c 0 F σ (Nat.zero_add _) (by omega) hI
theorem sm_pk187 {N L Z a4 : Nat} (hm : m ≤ h.length) (hF : 65540 < F) (hP : PKs F m h σ0 c of nf Mf Df Af Ef) (eN : N = sumT (pkNN Mf Df) c) (eL : L = sumT (pkLL Mf Df Af Ef) c) (eZ : Z = sumT (pkZZ nf) c) (e4 : a4 = 4 + 4 * N + L) (eT : T = 68 + Z + (a4 + a4 % 2)) (hT : T ≤ 8192) (hI : OWi σ0 σ cc) : Sm m h (OWe σ0) Any (f_M_pack_187 F m (nI N) (nI T) (nI a4) (mh m h σ)) := by
  have fin : ∀ σ, OWi σ0 σ T → Sm m h (OWe σ0) Any (f_M_pack_269 F m (nI T) (nI 72) (nI (72 + 4 * N)) (nI (68 + a4 + a4 % 2)) (mh m h σ)) := fun σ hi => sm_pk269 hm hF hP (by omega) eN eL eZ e4 (by omega) hi
  unfold f_M_pack_187
  refine sm_p4 hm hI (fun σ hi => ?_)
  obtain ⟨σ', e, w1, w2⟩ := q_put (F := F) (σ := σ) (at0 := 0) (n := 8) (v := (738142165265366049 : Int64)) hm (by omega) (by decide) hi.2.2
  have hi' : OWi σ0 σ' T := ⟨FR_trans hi.1 (FR_mono w1 (by decide) (by decide) (by decide) (by decide)), (w1.1 4 List.not_mem_nil).trans hi.2.1, w2⟩
  refine sm_o hm (fun _ => ?_)
  rw [e, xb_mk]
  unfold f_M_ahead f_M_highFirst
  refine sm_o hm (fun _ => sm_x (sm_ahead_2 (F := F) (p := 8) (v := a4) hm hF (by omega) (by omega) 58 0 F σ' rfl (by omega) hi') (fun _ σ _ hi => ?_))
  rw [Mr3 hm, bs]
  refine sm_w3 hm hi (by omega) (fun σ hi => ?_)
  refine sm_o hm (fun _ => sm_x (sm_high (F := F) (p := 68) hm (by omega) 4 0 F σ rfl (by omega) hi) (fun _ σ _ hi => ?_))
  rw [nI_m2 (by omega), nI_add, nI_add, show nI 4 * nI N = nI (4 * N) from (Int32.ofNat_mul _ _).symm, nI_add]
  refine sm_i (fun _ => ?_) (fun _ => fin σ hi)
  rw [Mr3 hm, bs, pk_sub (by omega)]
  exact sm_w3 hm hi (by omega) fin
theorem sm_pk167 {N L Z a4 : Nat} (hm : m ≤ h.length) (hF : 65540 < F) (hP : PKs F m h σ0 c of nf Mf Df Af Ef) (eN : N = sumT (pkNN Mf Df) c) (eL : L = sumT (pkLL Mf Df Af Ef) c) (eZ : Z = sumT (pkZZ nf) c) (e4 : a4 = 4 + 4 * N + L) (eT : T = 68 + Z + (a4 + a4 % 2)) (hT : T ≤ 8192) : ∀ (d j f : Nat) (σ : px_S), j + d = T → d < f → OWi σ0 σ cc → Sm m h (OWe σ0) Any (f_M_pack_167 F f m (nI N) (nI T) (nI a4) (nI j) (mh m h σ)) := by
  intro d
  induction d with
  | zero =>
    intro j f σ hj hf hI
    obtain ⟨f, rfl⟩ : ∃ y, f = y + 1 := ⟨f - 1, by omega⟩
    unfold f_M_pack_167
    rw [if_pos (nI_le (by omega) (by omega))]
    exact sm_pk187 hm hF hP eN eL eZ e4 eT hT hI
  | succ d ih =>
    intro j f σ hj hf hI
    obtain ⟨f, rfl⟩ : ∃ y, f = y + 1 := ⟨f - 1, by omega⟩
    unfold f_M_pack_167
    rw [if_neg (nI_ge (by omega) (by omega)), Mr3 hm, bs, nI_add]
    exact sm_w3 hm hI (by omega) (fun σ hi => ih _ _ _ (by omega) (by omega) hi)
theorem pk_bnd (hP : PKs F m h σ0 c of nf Mf Df Af Ef) : sumT (pkNN Mf Df) c ≤ 448 ∧ sumT (pkLL Mf Df Af Ef) c ≤ 29360128 ∧ sumT (pkZZ nf) c ≤ 459179 := by
  obtain ⟨hc7, e127, hO⟩ := hP
  have hM : ∀ i, i < c → pkM (Mf i) ≤ 64 := fun i hi => by
    have := (hO i hi).2.2.1
    unfold pkM; split <;> omega
  have b1 := sumT_b' (f := pkNN Mf Df) (k := 64) (n := c) (fun i hi => by
    have := sumT_b' (f := pkN (Df i)) (k := 1) (n := pkM (Mf i)) (fun j hj => by unfold pkN; repeat (first | omega | split))
    have := hM i hi
    unfold pkNN
    omega)
  have b2 := sumT_b' (f := pkLL Mf Df Af Ef) (k := 4194304) (n := c) (fun i hi => by
    have w := sumT_b' (f := pkL (Df i) (Af i) (Ef i)) (k := 65536) (n := pkM (Mf i)) (fun j hj => by
      cases hD : Df i j with
      | false => rw [pkL_f hD]; omega
      | true =>
        by_cases c0 : j = 0
        · unfold pkL; rw [if_pos c0]; omega
        · have := ((hO i hi).2.2.2.2.2 j (by omega) ((pkM_1 (Mf i)).2.2 j (by omega) hj)).2 hD
          rw [pkL_t (by omega) hD]
          omega)
    have := hM i hi
    unfold pkLL
    omega)
  have b3 := sumT_b' (f := pkZZ nf) (k := 65597) (n := c) (fun i hi => by
    have := (hO i hi).2.2.2.1
    unfold pkZZ pkZ
    omega)
  exact ⟨by omega, by omega, by omega⟩
theorem sm_pk136 (hm : m ≤ h.length) (hF : 65540 < F) (hP : PKs F m h σ0 c of nf Mf Df Af Ef) (hcc : cc ≤ 65536) (hI : OWi σ0 σ cc) : Sm m h (OWe σ0) Any (f_M_pack_136 F m (nI (sumT (pkNN Mf Df) c)) (nI (sumT (pkLL Mf Df Af Ef) c)) (nI (68 + sumT (pkZZ nf) c)) (mh m h σ)) := by
  obtain ⟨b1, b2, b3⟩ := pk_bnd hP
  have key : ∀ N L Z, N = sumT (pkNN Mf Df) c → L = sumT (pkLL Mf Df Af Ef) c → Z = sumT (pkZZ nf) c → Sm m h (OWe σ0) Any (f_M_pack_136 F m (nI N) (nI L) (nI (68 + Z)) (mh m h σ)) := fun N L Z eN eL eZ => by
    rw [← eN] at b1
    rw [← eL] at b2
    rw [← eZ] at b3
    unfold f_M_pack_136
    rw [show nI 4 * nI N = nI (4 * N) from (Int32.ofNat_mul _ _).symm, nI_add, nI_add, nI_m2 (by omega), nI_add, nI_add]
    by_cases hT : 68 + Z + (4 + 4 * N + L + (4 + 4 * N + L) % 2) ≤ 8192
    · rw [if_pos (nI_le hT (by decide))]
      exact sm_pk167 hm hF hP eN eL eZ rfl rfl hT _ 0 F σ (Nat.zero_add _) (by omega) hI
    · rw [if_neg (nI_ge (a := 8192) (by omega) (by omega))]
      exact sm_r any ⟨cc, hcc, hI⟩
  exact key _ _ _ rfl rfl rfl
end MPX
