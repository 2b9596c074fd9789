/-! the reference's map: safe (steps spelled out by sf/pp.py) -/
def sumT (f : Nat → Nat) : Nat → Nat
  | 0 => 0
  | n + 1 => sumT f n + f n
theorem sumT_le {f : Nat → Nat} : ∀ {a b : Nat}, a ≤ b → sumT f a ≤ sumT f b
  | a, 0, h => by rw [Nat.le_zero.mp h]; exact Nat.le_refl _
  | a, b + 1, h => by
    by_cases e : a = b + 1
    · rw [e]; exact Nat.le_refl _
    · exact Nat.le_trans (sumT_le (by omega)) (Nat.le_add_right _ _)
theorem sumT_b {f : Nat → Nat} {k : Nat} (hf : ∀ i, f i ≤ k) : ∀ n, sumT f n ≤ k * n
  | 0 => Nat.le_refl _
  | n + 1 => by
    have := sumT_b hf n
    have := hf n
    rw [Nat.mul_succ]
    show sumT f n + f n ≤ k * n + k
    omega
theorem wdN_b (v : Nat) : 1 ≤ wdN v ∧ wdN v ≤ 5 := by
  unfold wdN
  by_cases c1 : v < 10
  · rw [if_pos c1]; decide
  · rw [if_neg c1]
    by_cases c2 : v < 100
    · rw [if_pos c2]; decide
    · rw [if_neg c2]
      by_cases c3 : v < 1000
      · rw [if_pos c3]; decide
      · rw [if_neg c3]
        by_cases c4 : v < 10000
        · rw [if_pos c4]; decide
        · rw [if_neg c4]; decide
theorem wdN_1 {v : Nat} (h : v < 10) : wdN v = 1 := if_pos h
/-- what the map reads: the sections in order, the names in order -/
def MPs (σ : px_S) (nS nD : Nat) (zf uf gf ff mf lf df : Nat → Nat) : Prop := (nS ≤ 1536 ∧ gI σ 50 = nI nS ∧ ∀ p, p < nS → gA σ 56 p = nI (zf p) ∧ zf p ≤ 99999 ∧ gA σ 54 p = nI (uf p) ∧ uf p ≤ 99999 ∧ gA σ 55 p = nI (gf p) ∧ gf p < 10 ∧ gA σ 52 p = nI (ff p) ∧ ff p < 10 ∧ gA σ 53 p = nI (mf p) ∧ mf p < 10) ∧ nD ≤ 4096 ∧ gI σ 48 = nI nD ∧ ∀ i, i < nD → gA σ 49 i = nI (df i) ∧ df i < 4096 ∧ gA σ 22 (df i) = nI (lf i) ∧ lf i ≤ 20
section MMP
variable {F m : Nat} {h : px_H} {σ0 σ : px_S} {c nS nD : Nat} {zf uf gf ff mf lf df : Nat → Nat}
theorem MPs_O (hM : MPs σ0 nS nD zf uf gf ff mf lf df) (hI : OWi σ0 σ c) : MPs σ nS nD zf uf gf ff mf lf df := by
  obtain ⟨⟨h1, h2, h3⟩, h4, h5, h6⟩ := hM
  have a : ∀ k, k ≠ 3 → gA σ k = gA σ0 k := fun k hk => hI.1.2.2.1 k (by simpa using hk)
  refine ⟨⟨h1, (hI.1.1 50 (by decide)).trans h2, fun p hp => ?_⟩, h4, (hI.1.1 48 (by decide)).trans h5, fun i hi => ?_⟩
  · rw [a 56 (by decide), a 54 (by decide), a 55 (by decide), a 52 (by decide), a 53 (by decide)]; exact h3 p hp
  · rw [a 49 (by decide), a 22 (by decide)]; exact h6 i hi
theorem sm_mp_291 {k234 : Nat → Int32 → px_H → Option (Int32 × px_H)} {i d l c0 : Nat} (hm : m ≤ h.length) (hd : d < 4096) (hl : l ≤ 20) (e22 : gA σ0 22 d = nI l) (hc : c0 + l + 1 ≤ 65536) (hK : ∀ σ, OWi σ0 σ (c0 + l + 1) → Sm m h (OWe σ0) Any (k234 m (nI (i + 1)) (mh m h σ))) : ∀ (e j f : Nat) (σ : px_S), j + e = l → e < f → OWi σ0 σ (c0 + j) → Sm m h (OWe σ0) Any (f_M_map_291 F k234 f m (nI i) (nI d) (nI j) (mh m h σ)) := by
  intro e
  induction e with
  | zero =>
    intro j f σ hj hf hI
    obtain ⟨f, rfl⟩ : ∃ y, f = y + 1 := ⟨f - 1, by omega⟩
    obtain rfl : j = l := by omega
    have g22 : gA σ 22 = gA σ0 22 := hI.1.2.2.1 22 (by decide)
    unfold f_M_map_291 f_M_map_339
    rw [Mr22 hm, bs, Ma22 hm hd, bs, g22, e22, if_pos (nI_le (by omega) (by omega)), Mr3 hm, bs, Mg4 hm, bs, hI.2.1, nI_add]
    refine sm_w3 hm hI (by omega) (fun σ hi => ?_)
    rw [Mg4 hm, bs, hi.2.1, nI_add]
    exact sm_p4 hm hi (fun σ hi => hK σ hi)
  | succ e ih =>
    intro j f σ hj hf hI
    obtain ⟨f, rfl⟩ : ∃ y, f = y + 1 := ⟨f - 1, by omega⟩
    have g22 : gA σ 22 = gA σ0 22 := hI.1.2.2.1 22 (by decide)
    unfold f_M_map_291
    rw [Mr22 hm, bs, Ma22 hm hd, bs, g22, e22, if_neg (nI_ge (by omega) (by omega)), Mr3 hm, bs, Mg4 hm, bs, hI.2.1, Mr21 hm, bs, show nI 20 * nI d = nI (20 * d) from (Int32.ofNat_mul 20 d).symm, nI_add, Ma21 hm (by omega), bs, nI_add]
    refine sm_w3 hm hI (by omega) (fun σ hi => ?_)
    rw [Mg4 hm, bs, hi.2.1, nI_add, Nat.add_assoc]
    exact sm_p4 hm hi (fun σ hi => ih (j + 1) f σ (by omega) (by omega) hi)
theorem sm_mp_234 {T : Nat} (hm : m ≤ h.length) (hF : 65540 < F) (hM : MPs σ0 nS nD zf uf gf ff mf lf df) (hT : T + sumT (fun i => 18 + lf i) nD ≤ 65536) : ∀ (d j f : Nat) (σ : px_S), j + d = nD → d < f → OWi σ0 σ (T + sumT (fun i => 18 + lf i) j) → Sm m h (OWe σ0) Any (f_M_map_234 F f m (nI j) (mh m h σ)) := by
  have hN := hM.2.1
  intro d
  induction d with
  | zero =>
    intro j f σ hj hf hI
    obtain ⟨f, rfl⟩ : ∃ y, f = y + 1 := ⟨f - 1, by omega⟩
    obtain rfl : j = nD := by omega
    unfold f_M_map_234 f_M_map_366
    rw [Mg48 hm, bs, (MPs_O hM hI).2.2.1, if_pos (nI_le (by omega) (by omega)), Mg4 hm, bs]
    exact sm_r any ⟨_, hT, hI⟩
  | succ d ih =>
    intro j f σ hj hf hI
    obtain ⟨f, rfl⟩ : ∃ y, f = y + 1 := ⟨f - 1, by omega⟩
    obtain ⟨e49, hd, e22, hl⟩ := hM.2.2.2 j (by omega)
    have g49 : gA σ 49 = gA σ0 49 := hI.1.2.2.1 49 (by decide)
    have hle := sumT_le (f := fun i => 18 + lf i) (show j + 1 ≤ nD by omega)
    have es : sumT (fun i => 18 + lf i) (j + 1) = sumT (fun i => 18 + lf i) j + (18 + lf j) := rfl
    unfold f_M_map_234
    rw [Mg48 hm, bs, (MPs_O hM hI).2.2.1, if_neg (nI_ge (by omega) (by omega)), Mr49 hm, bs, Ma49 hm (by omega), bs, g49, e49, Mg4 hm, bs, hI.2.1, Mr29 hm, bs, Ma29 hm hd, bs]
    generalize sumT (fun i => 18 + lf i) j = S at *
    refine sm_o hm (fun _ => sm_x (sm_16_3 (F := F) (p := T + S) hm (by omega) 16 0 F σ rfl (by omega) hI) (fun _ σ _ hi => ?_))
    rw [Mr3 hm, bs, Mg4 hm, bs, hi.2.1, nI_add]
    refine sm_w3 hm hi (by omega) (fun σ hi => ?_)
    rw [Mg4 hm, bs, hi.2.1, nI_add]
    refine sm_p4 hm hi (fun σ hi => ?_)
    exact sm_mp_291 (c0 := T + S + 17) (l := lf j) hm hd hl e22 (by omega) (fun σ hi => ih (j + 1) f σ (by omega) (by omega) (by rw [es]; rw [show T + (S + (18 + lf j)) = T + S + 17 + lf j + 1 by omega]; exact hi)) (lf j) 0 F σ (Nat.zero_add _) (by omega) hi
end MMP
