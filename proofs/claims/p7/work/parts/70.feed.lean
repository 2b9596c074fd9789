/-! feed, on both sides; drop of the reference -/
section FED
variable {F m : Nat} {h : px_H} {σ : px_S} {c : px_CT} {sk : Nat → Nat × Nat × Nat} {L : Nat} {τ : px_TT} {n v w : Nat} {b : Nat → Nat} {fs : List (Nat × (Nat → Nat))} {x : Nat × (Nat → Nat)}
theorem vI_at {τ : px_TT} {a : Nat} {f : Nat → Int32} : eI (vI τ a f) a = f := (u1_eq : u1 τ.2.2.2.1 a f a = f)
theorem fdd_0 {B : Nat → Int32} (hB : cb B 0 n = b) : cb B 0 (n + 0) = fdd b n v 0 := by
  rw [Nat.add_zero]
  funext i
  unfold fdd
  by_cases c1 : i < n
  · rw [if_pos c1, hB]
  · rw [if_neg c1, if_neg (by omega)]
    exact if_neg c1
/-- nothing has changed but what feed changes -/
def frE (σ σ' : px_S) : Prop := (∀ i, i ≠ 0 → i ≠ 2 → gI σ' i = gI σ i) ∧ (∀ i, gJ σ' i = gJ σ i) ∧ (∀ i, i ≠ 1 → gA σ' i = gA σ i) ∧ (∀ i, gB σ' i = gB σ i)
theorem q_feed (hm : m ≤ h.length) (hF : 8 < F) (hv : v < 2 ^ 64) (h1 : 1 ≤ w) (hw : w ≤ 8) (hn : n + w ≤ 8192) (ht : RT σ n b) : ∃ σ', f_M_feed F m (nI w) (lN v) (mh m h σ) = some (nI (n + w), mh m h σ') ∧ RT σ' (n + w) (fdd b n v w) ∧ gI σ' 0 = nI 0 ∧ frE σ σ' := by
  obtain ⟨t1, t2, t3, t4⟩ := ht
  obtain ⟨σ', i1, i2, i3, i4, i5, i6⟩ := q_feed_54 (F := F) (h := h) (m := m) hv hw hm hn w 0 F (sI σ 0 (nI (thr false false))) (by omega) (by omega) (by rw [gI_sI, if_neg (by decide), Nat.add_zero]; exact t1) t3 (fdd_0 t4)
  refine ⟨σ', ?_, i2, ?_, ?_, ?_, ?_, ?_⟩
  · unfold f_M_feed f_M_feed_16 f_M_feed_42 f_M_feed_43
    rw [if_neg (nI_nlt h1 (by omega)), if_pos (nI_le hw (by decide)), if_pos (show nI 0 = 0 from rfl), Mg2 hm, bs, t1, nI_add, if_pos (nI_le hn (by decide)), e_o hm, bs, show nI 0 = bI false from rfl, q_throwing hm false false, xb_mk, if_pos (show bI (false || false) = 0 from rfl)]
    exact i1
  · rw [i3 0 (by decide), gI_sI, if_pos rfl]; rfl
  · intro i h0 h2
    rw [i3 i h2, gI_sI, if_neg h0]
  · intro i; rw [i4 i]; rfl
  · intro i hi; rw [i5 i hi]; rfl
  · intro i; rw [i6 i]; rfl
theorem q_feed_w {y : Int32} {z : Int64} (hm : m ≤ h.length) (hy : y < nI 1 ∨ ¬ y ≤ nI 8) : f_M_feed F m y z (mh m h σ) = some (nI 0, mh m h (sI σ 0 (nI 1))) := by
  have e : f_M_feed_11 F m y z (mh m h σ) = some (nI 0, mh m h (sI σ 0 (nI 1))) := by
    unfold f_M_feed_11 f_M_feed_16 f_M_feed_42 f_M_feed_43
    rw [if_neg (show ¬ nI 1 = 0 by decide), e_o hm, bs, show nI 1 = bI true from rfl, show nI 0 = bI false from rfl, q_throwing hm true false, xb_mk, if_neg (show ¬ bI (true || false) = 0 by decide)]
    rfl
  unfold f_M_feed
  by_cases c1 : y < nI 1
  · rw [if_pos c1, e]
  · rw [if_neg c1, if_neg (hy.resolve_left c1), e]
theorem q_feed_n {z : Int64} (hm : m ≤ h.length) (h1 : 1 ≤ w) (hw : w ≤ 8) (hn : ¬ n + w ≤ 8192) (ht : RT σ n b) : f_M_feed F m (nI w) z (mh m h σ) = some (nI 0, mh m h (sI σ 0 (nI 2))) := by
  obtain ⟨t1, t2, t3, t4⟩ := ht
  unfold f_M_feed f_M_feed_16 f_M_feed_43
  rw [if_neg (nI_nlt h1 (by omega)), if_pos (nI_le hw (by decide)), if_pos (show nI 0 = 0 from rfl), Mg2 hm, bs, t1, nI_add, if_neg (nI_ge (by omega) (by omega)), e_o hm, bs, show nI 0 = bI false from rfl, show nI 1 = bI true from rfl, q_throwing hm false true, xb_mk, if_neg (show ¬ bI (false || true) = 0 by decide)]
  rfl
/-- nothing has changed but what drop changes -/
theorem q_drop (hm : m ≤ h.length) (hf : RF σ (fs ++ [x])) : ∃ σ', f_M_drop F m (mh m h σ) = some (nI fs.length, mh m h σ') ∧ RF σ' fs ∧ gI σ' 0 = nI 0 ∧ (∀ i, i ≠ 0 → i ≠ 5 → gI σ' i = gI σ i) ∧ (∀ i, gJ σ' i = gJ σ i) ∧ (∀ i, gA σ' i = gA σ i) ∧ (∀ i, gB σ' i = gB σ i) := by
  have hlen : (fs ++ [x]).length = fs.length + 1 := by rw [List.length_append]; rfl
  obtain ⟨r1, r2, r3, r4⟩ := hf
  rw [hlen] at r1 r2
  refine ⟨sI (sI σ 0 (nI 0)) 5 (nI fs.length), ?_, ⟨?_, by omega, r3, ?_⟩, rfl, ?_, fun _ => rfl, fun _ => rfl, fun _ => rfl⟩
  · unfold f_M_drop f_M_drop_13
    rw [Mg5 hm, bs, r1, if_neg (show ¬ nI (fs.length + 1) = 0 from fun q => absurd ((nI_eq (b := 0) (by omega) (by omega)).mp q) (by omega)), e_o hm, bs, show nI 0 = bI false from rfl, q_throwing hm false false, xb_mk, if_pos (show bI (false || false) = 0 from rfl), Mg5 hm, bs, show gI (sI σ 0 (nI (thr false false))) 5 = nI (fs.length + 1) from r1, pk_sub (by omega), Nat.add_sub_cancel, Mp5 hm, bs, Mg5 hm, bs]
    rfl
  · rw [gI_sI, if_pos rfl]
  · intro f y hy
    have e : f < fs.length := (List.getElem?_eq_some_iff.mp hy).1
    have hy' : (fs ++ [x])[f]? = some y := by rw [List.getElem?_append_left e]; exact hy
    exact RF1_eq (r4 f y hy') rfl rfl rfl (fun _ _ _ => ⟨rfl, rfl, rfl⟩)
  · intro i h0 h5
    rw [gI_sI, if_neg h5, gI_sI, if_neg h0]
theorem q_drop_n (hm : m ≤ h.length) (hf : RF σ []) : f_M_drop F m (mh m h σ) = some (nI 0, mh m h (sI σ 0 (nI 1))) := by
  obtain ⟨r1, r2, r3, r4⟩ := hf
  unfold f_M_drop f_M_drop_13
  rw [Mg5 hm, bs, r1, if_pos (show nI ([] : List (Nat × (Nat → Nat))).length = 0 from rfl), e_o hm, bs, show nI 1 = bI true from rfl, show nI 0 = bI false from rfl, q_throwing hm true false, xb_mk, if_neg (show ¬ bI (true || false) = 0 by decide)]
  rfl
/-- the class's feed -/
theorem shr_byte {k : Nat} (hv : v < 2 ^ 64) (hk : k < 8) : (((lN v).toUInt64 >>> ((nI (8 * k)).toInt64.toUInt64 &&& Int64.toUInt64 63)).toInt64).toInt32 = nI (v / 256 ^ k) := by
  rw [wb_shr hv (by omega), show 2 ^ (8 * k) = 256 ^ k by rw [Nat.pow_mul]]
  exact lN_i _
theorem k_put_3 (hS : GS sk L) (hv : v < 2 ^ 64) (hw : w ≤ 8) (hn : n + w ≤ 8192) : ∀ (d k f : Nat) (τ : px_TT), k + d = w → d < f → GR τ → CTp τ (n + k) (fdd b n v k) → ∃ τ', f_Row_put_3 F c f 1 (nI w) (lN v) (nI k) (cH sk L τ) = some ((), cH sk L τ') ∧ GR τ' ∧ CTp τ' (n + w) (fdd b n v w) ∧ (∀ a k, (a ≠ 1 ∨ k ≠ 1) → fI τ' a k = fI τ a k) ∧ (∀ a k, fJ τ' a k = fJ τ a k) ∧ (∀ a k, fN τ' a k = fN τ a k) ∧ (∀ a, a ≠ 2 → eI τ' a = eI τ a) ∧ (∀ a, eJ τ' a = eJ τ a) ∧ (∀ a, eN τ' a = eN τ a) := by
  intro d
  induction d with
  | zero =>
    intro k f τ hk hf hR ht
    obtain ⟨f, rfl⟩ : ∃ g, f = g + 1 := ⟨f - 1, by omega⟩
    have hkw : k = w := by omega
    subst hkw
    refine ⟨τ, ?_, hR, ht, fun _ _ _ => rfl, fun _ _ => rfl, fun _ _ => rfl, fun _ _ => rfl, fun _ => rfl, fun _ => rfl⟩
    unfold f_Row_put_3 f_Row_put_63
    rw [if_pos (nI_le (Nat.le_refl _) (by omega))]
  | succ d ih =>
    intro k f τ hk hf hR ht
    obtain ⟨f, rfl⟩ : ∃ g, f = g + 1 := ⟨f - 1, by omega⟩
    obtain ⟨t1, t2, t3, t4⟩ := ht
    obtain ⟨τ1, hτ1⟩ : ∃ t, t = tI (vI τ 2 (upd (eI τ 2) (n + k) (nI (v / 256 ^ k)).toInt8.toInt32)) 1 1 (nI (n + k + 1)) := ⟨_, rfl⟩
    have hI : ∀ a k, (a ≠ 1 ∨ k ≠ 1) → fI τ1 a k = fI τ a k := fun a k h => by rw [hτ1]; exact tI_ne h
    have hE : ∀ a, a ≠ 2 → eI τ1 a = eI τ a := fun a h => by rw [hτ1]; exact u1_ne h
    have hE2 : eI τ1 2 = upd (eI τ 2) (n + k) (nI (v / 256 ^ k)).toInt8.toInt32 := by rw [hτ1]; exact vI_at
    have hR1 : GR τ1 := by rw [hτ1]; exact GR_I (GR_vI hR) (by omega)
    obtain ⟨τ', i1, i2, i3, i4, i5, i6, i7, i8, i9⟩ := ih (k + 1) f τ1 (by omega) (by omega) hR1 (by
      refine ⟨?_, by omega, ?_, ?_⟩
      · rw [hτ1, ← Nat.add_assoc]; exact tI_at
      · intro i
        rw [hE2]
        by_cases e : i = n + k
        · rw [e, upd_eq, toInt8_mod]; exact isB_n8 _ (Nat.mod_lt _ (by decide))
        · rw [upd_ne e]; exact t3 i
      · rw [hE2]; exact fdd_s t4)
    refine ⟨τ', ?_, i2, i3, fun a k h => (i4 a k h).trans (hI a k h), fun a k => (i5 a k).trans (by rw [hτ1]; rfl), fun a k => (i6 a k).trans (by rw [hτ1]; rfl), fun a h => (i7 a h).trans (hE a h), fun a => (i8 a).trans (by rw [hτ1]; rfl), fun a => (i9 a).trans (by rw [hτ1]; rfl)⟩
    unfold f_Row_put_3 f_Row_put_57
    rw [if_neg (nI_ge (by omega) (by omega)), C10g1 (G1 hS), bs, C10r0 (G1 hS) (R1_0 hR), bs, c_l (G2 hS) (by decide), bs, t1, if_neg (nI_ge (by omega) (by omega)), bs, bs, pk_mul, shr_byte hv (by omega), isB_n (show isB (nI (v / 256 ^ k)).toInt8.toInt32 by rw [toInt8_mod]; exact isB_n8 _ (Nat.mod_lt _ (by decide))), c_sI (G2 hS) (by decide) (by decide) (by omega), bs, C10g1 (G1 hS), bs, show fI (vI τ 2 (upd (eI τ 2) (n + k) (nI (v / 256 ^ k)).toInt8.toInt32)) 1 1 = nI (n + k) from t1, nI_add, C10p1 (G1 hS), bs, nI_add, ← hτ1]
    exact i1
theorem k_feed (hS : GS sk L) (hR : GR τ) (hF : 8 < F) (hv : v < 2 ^ 64) (h1 : 1 ≤ w) (hw : w ≤ 8) (hn : n + w ≤ 8192) (ht : CTp τ n b) : ∃ τ', f_H_feed F c 0 (nI w) (lN v) (cH sk L τ) = some (nI (n + w), cH sk L τ') ∧ GR τ' ∧ CTp τ' (n + w) (fdd b n v w) ∧ (∀ a k, (a ≠ 1 ∨ k ≠ 1) → fI τ' a k = fI τ a k) ∧ (∀ a k, fJ τ' a k = fJ τ a k) ∧ (∀ a k, fN τ' a k = fN τ a k) ∧ (∀ a, a ≠ 2 → eI τ' a = eI τ a) ∧ (∀ a, eJ τ' a = eJ τ a) ∧ (∀ a, eN τ' a = eN τ a) := by
  obtain ⟨t1, t2, t3, t4⟩ := ht
  obtain ⟨τ', i1, i2, i3, i4⟩ := k_put_3 (F := F) (c := c) hS hv hw hn w 0 F τ (by omega) (by omega) hR ⟨by rw [Nat.add_zero]; exact t1, by omega, t3, fdd_0 t4⟩
  refine ⟨τ', ?_, i2, i3, i4⟩
  unfold f_H_feed f_Row_put
  rw [if_neg (nI_nlt h1 (by omega)), if_pos (nI_le hw (by decide)), C0r0 (G0 hS) (R0_0 hR), bs, C10g1 (G1 hS), bs, t1, nI_add, if_pos (nI_le hn (by decide)), bs, c_o (G1 hS), bs, i1, xb_mk, C0r0 (G0 hS) (R0_0 i2), bs, C10g1 (G1 hS), bs, i3.1]
end FED
