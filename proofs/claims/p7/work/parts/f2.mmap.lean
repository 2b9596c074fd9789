/-! the reference's map, whole: safe (steps spelled out by sf/pp.py) -/
theorem sumT_b' {f : Nat → Nat} {k : Nat} : ∀ {n : Nat}, (∀ i, i < n → f i ≤ k) → sumT f n ≤ k * n
  | 0, _ => Nat.le_refl _
  | n + 1, hf => by
    have h1 := sumT_b' (n := n) (fun i hi => hf i (by omega))
    have h2 := hf n (by omega)
    rw [Nat.mul_succ]
    show sumT f n + f n ≤ k * n + k
    omega
section MMQ
variable {F m : Nat} {h : px_H} {σ0 σ : px_S} {c nS nD : Nat} {zf uf gf ff mf lf df : Nat → Nat}
theorem sm_mp_119 (hm : m ≤ h.length) (hF : 65540 < F) (hM : MPs σ0 nS nD zf uf gf ff mf lf df) (hT : sumT (fun p => 25 + wdN (zf p) + wdN (uf p)) nS + sumT (fun i => 18 + lf i) nD ≤ 65536) : ∀ (d j f : Nat) (σ : px_S), j + d = nS → d < f → OWi σ0 σ (sumT (fun p => 25 + wdN (zf p) + wdN (uf p)) j) → Sm m h (OWe σ0) Any (f_M_map_119 F f m (nI j) (mh m h σ)) := by
  have hN := hM.1.1
  have hN2 := hM.2.1
  intro d
  induction d with
  | zero =>
    intro j f σ hj hf hI
    obtain ⟨f, rfl⟩ : ∃ y, f = y + 1 := ⟨f - 1, by omega⟩
    obtain rfl : j = nS := by omega
    unfold f_M_map_119 f_M_map_232
    rw [Mg50 hm, bs, (MPs_O hM hI).1.2.1, if_pos (nI_le (by omega) (by omega))]
    exact sm_mp_234 hm hF hM hT nD 0 F σ (Nat.zero_add _) (by omega) hI
  | succ d ih =>
    intro j f σ hj hf hI
    obtain ⟨f, rfl⟩ : ∃ y, f = y + 1 := ⟨f - 1, by omega⟩
    have hj1 : j < 1536 := by omega
    have hle := sumT_le (f := fun p => 25 + wdN (zf p) + wdN (uf p)) (show j + 1 ≤ nS by omega)
    have es : sumT (fun p => 25 + wdN (zf p) + wdN (uf p)) (j + 1) = sumT (fun p => 25 + wdN (zf p) + wdN (uf p)) j + (25 + wdN (zf j) + wdN (uf j)) := rfl
    unfold f_M_map_119
    rw [Mg50 hm, bs, (MPs_O hM hI).1.2.1, if_neg (nI_ge (by omega) (by omega)), Mg4 hm, bs, hI.2.1, Mr57 hm, bs, Ma57 hm hj1, bs, nI_add]
    generalize sumT (fun p => 25 + wdN (zf p) + wdN (uf p)) j = S at *
    generalize sumT (fun p => 25 + wdN (zf p) + wdN (uf p)) nS = SS at *
    have wz := wdN_b (zf j)
    have wu := wdN_b (uf j)
    refine sm_o hm (fun _ => sm_x (sm_16_3 (F := F) (p := S) hm (by omega) 16 0 F σ rfl (by omega) hI) (fun _ σ _ hi => ?_))
    rw [Mr3 hm, bs, Mg4 hm, bs, hi.2.1, nI_add]
    refine sm_w3 hm hi (by omega) (fun σ hi => ?_)
    rw [Mg4 hm, bs, hi.2.1, nI_add]
    refine sm_p4 hm hi (fun σ hi => ?_)
    obtain ⟨z1, z2, _⟩ := (MPs_O hM hi).1.2.2 j (by omega)
    rw [Mr56 hm, bs, Ma56 hm hj1, bs, z1]
    refine sm_o hm (fun _ => sm_x (sm_sayN hm hF z2 (by omega) hi) (fun _ σ _ hi => ?_))
    obtain ⟨_, _, _, _, g1, g2, _⟩ := (MPs_O hM hi).1.2.2 j (by omega)
    rw [Mr55 hm, bs, Ma55 hm hj1, bs, g1]
    refine sm_o hm (fun _ => sm_x (sm_sayN hm hF (by omega) (by rw [wdN_1 g2]; omega) hi) (fun _ σ _ hi => ?_))
    obtain ⟨_, _, _, _, _, _, f1, f2, _⟩ := (MPs_O hM hi).1.2.2 j (by omega)
    rw [wdN_1 g2] at hi
    rw [Mr52 hm, bs, Ma52 hm hj1, bs, f1]
    refine sm_o hm (fun _ => sm_x (sm_sayN hm hF (by omega) (by rw [wdN_1 f2]; omega) hi) (fun _ σ _ hi => ?_))
    obtain ⟨_, _, _, _, _, _, _, _, m1, m2⟩ := (MPs_O hM hi).1.2.2 j (by omega)
    rw [wdN_1 f2] at hi
    rw [Mr53 hm, bs, Ma53 hm hj1, bs, m1]
    refine sm_o hm (fun _ => sm_x (sm_sayN hm hF (by omega) (by rw [wdN_1 m2]; omega) hi) (fun _ σ _ hi => ?_))
    obtain ⟨_, _, u1, u2, _⟩ := (MPs_O hM hi).1.2.2 j (by omega)
    rw [wdN_1 m2] at hi
    rw [Mr54 hm, bs, Ma54 hm hj1, bs, u1]
    refine sm_o hm (fun _ => sm_x (sm_sayN hm hF u2 (by omega) hi) (fun _ σ _ hi => ?_))
    refine ih (j + 1) f σ (by omega) (by omega) ?_
    rw [es, show S + (25 + wdN (zf j) + wdN (uf j)) = S + 17 + wdN (zf j) + 1 + 1 + 1 + 1 + 1 + 1 + 1 + wdN (uf j) + 1 by omega]
    exact hi
theorem sm_mp_73 {T : Nat} (hm : m ≤ h.length) (hF : 65540 < F) (ho : OUo σ0) (hM : MPs σ0 nS nD zf uf gf ff mf lf df) (eT : T = sumT (fun p => 25 + wdN (zf p) + wdN (uf p)) nS) (hTb : T ≤ 53760) (hf0 : FR [0] [] [] [] σ0 σ) : ∀ (d j f : Nat), j + d = nD → d < f → Sm m h (OWe σ0) Any (f_M_map_73 F f m (nI (T + sumT (fun i => 18 + lf i) j)) (nI j) (mh m h σ)) := by
  have hN := hM.1.1
  have hN2 := hM.2.1
  obtain ⟨co, hco, hO⟩ := OWe_0 ho hf0
  have hMs := MPs_O hM hO
  intro d
  induction d with
  | zero =>
    intro j f hj hf
    obtain ⟨f, rfl⟩ : ∃ y, f = y + 1 := ⟨f - 1, by omega⟩
    obtain rfl : j = nD := by omega
    unfold f_M_map_73 f_M_map_104
    rw [Mg48 hm, bs, hMs.2.2.1, if_pos (nI_le (by omega) (by omega))]
    have hB := sumT_b' (f := fun i => 18 + lf i) (k := 38) (n := j) (fun i hi => by have := (hM.2.2.2 i hi).2.2.2; show 18 + lf i ≤ 38; omega)
    by_cases hle : T + sumT (fun i => 18 + lf i) j ≤ 65536
    · rw [if_pos (show nI (T + sumT (fun i => 18 + lf i) j) ≤ (65536 : Int32) from nI_le hle (by decide)), Mp4 hm, bs]
      exact sm_mp_119 hm hF hM (by rw [← eT]; exact hle) nS 0 F _ (Nat.zero_add _) (by omega) (OWi_p hO)
    · rw [if_neg (show ¬ nI (T + sumT (fun i => 18 + lf i) j) ≤ (65536 : Int32) from nI_ge (a := 65536) (by omega) (by omega))]
      exact sm_r any ⟨co, hco, hO⟩
  | succ d ih =>
    intro j f hj hf
    obtain ⟨f, rfl⟩ : ∃ y, f = y + 1 := ⟨f - 1, by omega⟩
    obtain ⟨e49, hd, e22, hl⟩ := hMs.2.2.2 j (by omega)
    have es : sumT (fun i => 18 + lf i) (j + 1) = sumT (fun i => 18 + lf i) j + (18 + lf j) := rfl
    have go := ih (j + 1) f (by omega) (by omega)
    unfold f_M_map_73
    rw [Mg48 hm, bs, hMs.2.2.1, if_neg (nI_ge (by omega) (by omega)), Mr22 hm, bs, Mr49 hm, bs, Ma49 hm (by omega), bs, e49, Ma22 hm hd, bs, e22, nI_add, nI_add, nI_add, Nat.add_assoc, ← es]
    exact go
theorem sm_mp_26 (hm : m ≤ h.length) (hF : 65540 < F) (ho : OUo σ0) (hM : MPs σ0 nS nD zf uf gf ff mf lf df) (hf0 : FR [0] [] [] [] σ0 σ) : ∀ (d j f : Nat), j + d = nS → d < f → Sm m h (OWe σ0) Any (f_M_map_26 F f m (nI (sumT (fun p => 25 + wdN (zf p) + wdN (uf p)) j)) (nI j) (mh m h σ)) := by
  have hN := hM.1.1
  have hN2 := hM.2.1
  obtain ⟨co, hco, hO⟩ := OWe_0 ho hf0
  have hMs := MPs_O hM hO
  intro d
  induction d with
  | zero =>
    intro j f hj hf
    obtain ⟨f, rfl⟩ : ∃ y, f = y + 1 := ⟨f - 1, by omega⟩
    obtain rfl : j = nS := by omega
    have hB := sumT_b' (f := fun p => 25 + wdN (zf p) + wdN (uf p)) (k := 35) (n := j) (fun i hi => by have w1 := (wdN_b (zf i)).2; have w2 := (wdN_b (uf i)).2; show 25 + wdN (zf i) + wdN (uf i) ≤ 35; omega)
    unfold f_M_map_26 f_M_map_71
    rw [Mg50 hm, bs, hMs.1.2.1, if_pos (nI_le (by omega) (by omega))]
    exact sm_mp_73 hm hF ho hM rfl (by omega) hf0 nD 0 F (Nat.zero_add _) (by omega)
  | succ d ih =>
    intro j f hj hf
    obtain ⟨f, rfl⟩ : ∃ y, f = y + 1 := ⟨f - 1, by omega⟩
    obtain ⟨z1, z2, u1, u2, _⟩ := hMs.1.2.2 j (by omega)
    have es : sumT (fun p => 25 + wdN (zf p) + wdN (uf p)) (j + 1) = sumT (fun p => 25 + wdN (zf p) + wdN (uf p)) j + (25 + wdN (zf j) + wdN (uf j)) := rfl
    have go := ih (j + 1) f (by omega) (by omega)
    rw [es, show 25 + wdN (zf j) + wdN (uf j) = 22 + wdN (zf j) + wdN (uf j) + 1 + 1 + 1 by omega] at go
    unfold f_M_map_26
    rw [Mg50 hm, bs, hMs.1.2.1, if_neg (nI_ge (by omega) (by omega)), Mr56 hm, bs, Ma56 hm (by omega), bs, z1, q_wide (by omega), xb_mk, Mr54 hm, bs, Ma54 hm (by omega), bs, u1, q_wide (by omega), xb_mk, nI_add, nI_add, nI_add, nI_add, nI_add, nI_add, nI_add]
    exact go
theorem sm_map (hm : m ≤ h.length) (hF : 65540 < F) (ho : OUo σ0) (hM : gI σ0 13 = 0 → MPs σ0 nS nD zf uf gf ff mf lf df) : Sm m h (OWe σ0) Any (f_M_map F m (mh m h σ0)) := by
  unfold f_M_map f_M_map_13
  refine sm_gI hm rfl (sm_i (fun h13 => ?_) (fun _ => ?_))
  · refine sm_o hm (fun _ => sm_t0 (σ0 := σ0) hm (FR_refl _) (fun σ hi => sm_i (fun _ => ?_) (fun hc => absurd rfl hc)))
    have hN := (hM h13).1.1
    exact sm_mp_26 hm hF ho (hM h13) hi nS 0 F (Nat.zero_add _) (by omega)
  · exact sm_o hm (fun _ => sm_tA (σ0 := σ0) hm (FR_refl _) (fun σ hi => sm_i (fun hc => absurd hc (by decide)) (fun _ => sm_r any (OWe_0 ho hi))))
end MMQ
