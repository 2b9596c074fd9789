/-! drop and feed, on both sides -/
section DRP
variable {F : Nat} {c : px_CT} {sk : Nat → Nat × Nat × Nat} {L : Nat} {τ : px_TT} {n : Nat} {b : Nat → Nat} {fs : List (Nat × (Nat → Nat))} {x : Nat × (Nat → Nat)}
theorem k_drop (hS : GS sk L) (hR : GR τ) (hF : 8 < F) (ht : CTp τ n b) (hf : CF sk L τ (fs ++ [x])) : ∃ τ', f_H_drop F c 0 (cH sk L τ) = some (nI fs.length, cH sk L τ') ∧ GR τ' ∧ CTp τ' n b ∧ CF sk L τ' fs ∧ frD fs.length τ τ' ∧ ∀ j, j < 8 → clF τ' (10 + 2 * (8 * fs.length + j)) := by
  have hlen : (fs ++ [x]).length = fs.length + 1 := by rw [List.length_append]; rfl
  obtain ⟨c1, c2, c3, c4, c5, c6, c7⟩ := id hf
  rw [hlen] at c1 c2 c5 c7
  have hfl : fs.length < 8 := by omega
  have hR1 : GR (tI τ 0 6 (nI fs.length)) := GR_I hR (by omega)
  have h138 : eI (tI τ 0 6 (nI fs.length)) 138 fs.length = nI (off fs fs.length) := by
    show eI τ 138 fs.length = _
    rw [c5 fs.length (by omega), off_app (Nat.le_refl _)]
  obtain ⟨τ5, g1, g2, g3⟩ := k_clearFile (F := F) (c := c) hS hR1 hF hfl h138
  obtain ⟨τ6, hτ6⟩ : ∃ t, t = tI τ5 7 1 (nI (off fs fs.length)) := ⟨_, rfl⟩
  have hI6 : ∀ a k, (a ≠ 7 ∨ k ≠ 1) → fI τ6 a k = fI τ5 a k := fun a k h => by rw [hτ6]; exact u2_ne h
  have hI5 : ∀ a k, (a < 10 + 16 * fs.length ∨ 10 + 16 * (fs.length + 1) ≤ a) → (a ≠ 0 ∨ k ≠ 6) → fI τ5 a k = fI τ a k := fun a k ha h0 => (g2.1 a k (by omega)).trans (tI_ne h0)
  have h65 : fI τ5 0 6 = nI fs.length := (g2.1 0 6 (by omega)).trans tI_at
  have hE6 : ∀ a, (a < 10 + 16 * fs.length ∨ 10 + 16 * (fs.length + 1) ≤ a) → a ≠ 139 → eI τ6 a = eI τ a := fun a ha h9 => by rw [hτ6]; exact g2.2.2.2.2.1 a (by omega) h9
  have hN6 : ∀ a k, fN τ6 a k = fN τ a k := fun a k => by rw [hτ6]; exact g2.2.2.2.1 a k
  have h86 : eI τ6 8 = eI τ 8 := hE6 8 (by omega) (by decide)
  refine ⟨τ6, ?_, ?_, ?_, ?_, ?_⟩
  · unfold f_H_drop
    rw [C0g6 (G0 hS), bs, c1, if_pos (show (0 : Int32) < nI (fs.length + 1) from nI_lt (a := 0) (by omega) (by omega)), bs, pk_sub (by omega), Nat.add_sub_cancel, C0p6 (G0 hS), bs, C0g6 (G0 hS), bs, tI_at, c_o (G0 hS), bs, g1, xb_mk, ← hτ6, C0g6 (G0 hS), bs, hI6 0 6 (by decide), h65]
  · rw [hτ6]; exact GR_I (GR_F hR1 g2) (by omega)
  · have e2 : eI τ6 2 = eI τ 2 := hE6 2 (by omega) (by decide)
    exact ⟨(hI6 1 1 (by decide)).trans ((hI5 1 1 (by omega) (by decide)).trans ht.1), ht.2.1, by rw [e2]; exact ht.2.2.1, by rw [e2]; exact ht.2.2.2⟩
  · refine ⟨?_, by omega, by rw [h86]; exact c3, ?_, ?_, ?_, ?_⟩
    · rw [hI6 0 6 (by decide)]; exact h65
    · rw [hτ6]; exact tI_at
    · intro k hk
      rw [hE6 138 (by omega) (by decide), c5 k (by omega), off_app hk]
    · intro f y hy
      have e : f < fs.length := (List.getElem?_eq_some_iff.mp hy).1
      have hy' : (fs ++ [x])[f]? = some y := by rw [List.getElem?_append_left e]; exact hy
      have := CF_old (τ' := τ6) (o := fs.length) hf hN6 (by rw [h86]; exact c3) (by
        intro q hq
        refine ⟨fun i _ _ => ?_, ?_⟩
        · rw [hI6 _ _ (Or.inl (by omega)), hI5 _ _ (by omega) (Or.inl (by omega))]
        · rw [hE6 _ (by omega) (by omega)]) (by rw [h86]; exact fun _ _ => rfl) (by rw [hlen]; omega) f y e hy'
      rw [off_app (by omega)] at this
      exact this
    · intro f j hf1 hf8 hj
      rw [hI6 _ _ (Or.inl (by omega))]
      by_cases e : f = fs.length
      · rw [e]; exact (g3 j hj).1
      · rw [hI5 _ _ (by omega) (Or.inl (by omega))]
        exact c7 f j (by omega) hf8 hj
  · refine ⟨⟨?_, ?_, hN6, ?_, ?_, ?_, ?_⟩, fun j hj => ?_⟩
    · intro a k h0 _ h7 ha
      rw [hI6 _ _ h7, hI5 _ _ (by omega) h0]
    · intro a k; rw [hτ6]; exact g2.2.2.1 a k
    · intro a _ _ h139 ha
      exact hE6 a (by omega) h139
    · intro a; rw [hτ6]; exact g2.2.2.2.2.2.1 a
    · intro a; rw [hτ6]; exact g2.2.2.2.2.2.2.1 a
    · intro a ha
      have u := g2.2.2.2.2.2.2.2 a
      exact ⟨zK_t (zK_t (zK_e (tI_ne (Or.inr (by decide)))) u.1) (zK_e (hI6 a 15 (Or.inr (by decide)))), zK_t (zK_t (zK_e (tI_ne (Or.inr (by decide)))) u.2) (zK_e (hI6 a 16 (Or.inr (by decide))))⟩
    · unfold clF
      rw [hI6 _ _ (Or.inl (by omega)), hI6 _ _ (Or.inl (by omega)), hI6 _ _ (Or.inl (by omega))]
      exact g3 j hj
/-- eight bytes of a long -/
def vb (v k : Nat) : Nat := v / 256 ^ k % 256
theorem b8_n : ∀ n, n < 256 → b8 (nI n).toInt8.toInt32 = n := by decide +kernel
theorem isB_n8 : ∀ n, n < 256 → isB (nI n).toInt8.toInt32 := by
  have : ∀ n, n < 256 → (nI n).toInt8.toInt32 = (nI (b8 (nI n).toInt8.toInt32)).toInt8.toInt32 := by decide +kernel
  exact this
theorem toInt8_mod (n : Nat) : (nI n).toInt8.toInt32 = (nI (n % 256)).toInt8.toInt32 := by
  have e : (nI n).toInt8 = (nI (n % 256)).toInt8 := by
    apply Int8.toBitVec_inj.mp
    apply BitVec.eq_of_toNat_eq
    rw [Int32.toBitVec_toInt8, Int32.toBitVec_toInt8, BitVec.signExtend_eq_setWidth_of_le _ (by decide), BitVec.signExtend_eq_setWidth_of_le _ (by decide), BitVec.toNat_setWidth, BitVec.toNat_setWidth]
    show (n % 2 ^ 32) % 2 ^ 8 = (n % 256 % 2 ^ 32) % 2 ^ 8
    omega
  rw [e]
/-- a byte of a long, shifted with its sign -/
theorem sshr_byte {v k : Nat} (hv : v < 2 ^ 64) (hk : k < 8) : (lN v >>> ((nI (8 * k)).toInt64 &&& 63)).toInt32.toInt8 = (nI (v / 2 ^ (8 * k))).toInt8 := by
  apply Int8.toBitVec_inj.mp
  apply BitVec.eq_of_getLsbD_eq
  intro i hi
  have e1 : ((nI (8 * k)).toInt64 &&& 63) = lN (8 * k) := wb_c (8 * k) (by omega)
  have e2 : (lN (8 * k)).toBitVec.smod 64 = BitVec.ofNat 64 (8 * k) := wb_sm (8 * k) (by omega)
  rw [e1, Int32.toBitVec_toInt8, Int32.toBitVec_toInt8, Int64.toBitVec_toInt32, Int64.toBitVec_shiftRight, BitVec.signExtend_eq_setWidth_of_le _ (by decide), BitVec.signExtend_eq_setWidth_of_le _ (by decide), BitVec.signExtend_eq_setWidth_of_le _ (by decide)]
  rw [e2]
  show (BitVec.setWidth 8 (BitVec.setWidth 32 ((lN v).toBitVec.sshiftRight (BitVec.ofNat 64 (8 * k)).toNat))).getLsbD i = _
  rw [show (BitVec.ofNat 64 (8 * k)).toNat = 8 * k from Nat.mod_eq_of_lt (by omega), BitVec.getLsbD_setWidth, BitVec.getLsbD_setWidth, BitVec.getLsbD_sshiftRight, BitVec.getLsbD_setWidth]
  have e3 : (lN v).toBitVec.getLsbD (8 * k + i) = v.testBit (8 * k + i) := by
    show (BitVec.ofNat 64 v).getLsbD (8 * k + i) = _
    rw [BitVec.getLsbD_ofNat]
    simp [show 8 * k + i < 64 by omega]
  have e4 : (nI (v / 2 ^ (8 * k))).toBitVec.getLsbD i = v.testBit (8 * k + i) := by
    show (BitVec.ofNat 32 (v / 2 ^ (8 * k))).getLsbD i = _
    rw [BitVec.getLsbD_ofNat, Nat.testBit_div_two_pow, Nat.add_comm i]
    simp [show i < 32 by omega]
  rw [e3, e4]
  simp [hi, show i < 32 by omega, show i < 64 by omega, show ¬ 64 ≤ i by omega, show 8 * k + i < 64 by omega]
/-- the tape with k bytes of v behind its n -/
def fdd (b : Nat → Nat) (n v k i : Nat) : Nat := if i < n then b i else if i < n + k then vb v (i - n) else 0
theorem fdd_s {B : Nat → Int32} {n v k : Nat} {b : Nat → Nat} (h : cb B 0 (n + k) = fdd b n v k) : cb (upd B (n + k) (nI (v / 256 ^ k)).toInt8.toInt32) 0 (n + (k + 1)) = fdd b n v (k + 1) := by
  funext i
  have h1 := congrFun h i
  unfold cb fdd at h1 ⊢
  rw [Nat.zero_add] at h1 ⊢
  by_cases c1 : i < n + k
  · rw [if_pos c1] at h1
    rw [if_pos (by omega), upd_ne (by omega), h1]
    by_cases c2 : i < n
    · rw [if_pos c2, if_pos c2]
    · rw [if_neg c2, if_neg c2, if_pos c1, if_pos (by omega)]
  · by_cases c2 : i = n + k
    · rw [c2, if_pos (by omega), upd_eq, if_neg (by omega), if_pos (by omega), toInt8_mod, b8_n _ (Nat.mod_lt _ (by decide)), Nat.add_sub_cancel_left]
      rfl
    · rw [if_neg (by omega), if_neg (by omega), if_neg (by omega)]
theorem q_feed_54 {h : px_H} {m v w : Nat} (hv : v < 2 ^ 64) (hw : w ≤ 8) (hm : m ≤ h.length) (hn : n + w ≤ 8192) : ∀ (d k f : Nat) (σ : px_S), k + d = w → d < f → gI σ 2 = nI (n + k) → (∀ i, isB (gA σ 1 i)) → cb (gA σ 1) 0 (n + k) = fdd b n v k → ∃ σ', f_M_feed_54 F f m (nI w) (lN v) (nI k) (mh m h σ) = some (nI (n + w), mh m h σ') ∧ RT σ' (n + w) (fdd b n v w) ∧ (∀ i, i ≠ 2 → gI σ' i = gI σ i) ∧ (∀ i, gJ σ' i = gJ σ i) ∧ (∀ i, i ≠ 1 → gA σ' i = gA σ i) ∧ (∀ i, gB σ' i = gB σ i) := by
  intro d
  induction d with
  | zero =>
    intro k f σ hk hf h2 hB hc
    obtain ⟨f, rfl⟩ : ∃ g, f = g + 1 := ⟨f - 1, by omega⟩
    have hkw : k = w := by omega
    subst hkw
    refine ⟨σ, ?_, ⟨h2, hn, hB, hc⟩, fun _ _ => rfl, fun _ => rfl, fun _ _ => rfl, fun _ => rfl⟩
    unfold f_M_feed_54 f_M_feed_94
    rw [if_pos (nI_le (Nat.le_refl _) (by omega)), Mg2 hm, bs, h2]
  | succ d ih =>
    intro k f σ hk hf h2 hB hc
    obtain ⟨f, rfl⟩ : ∃ g, f = g + 1 := ⟨f - 1, by omega⟩
    unfold f_M_feed_54
    rw [if_neg (nI_ge (by omega) (by omega)), Mr1 hm, bs, Mg2 hm, bs, h2, pk_mul, sshr_byte hv (by omega), show 2 ^ (8 * k) = 256 ^ k by rw [Nat.pow_mul], isB_n (show isB (nI (v / 256 ^ k)).toInt8.toInt32 by rw [toInt8_mod]; exact isB_n8 _ (Nat.mod_lt _ (by decide))), Ms1 hm (by omega), bs, Mg2 hm, bs, show gI (sA σ 1 (upd (gA σ 1) (n + k) (nI (v / 256 ^ k)).toInt8.toInt32)) 2 = nI (n + k) from h2, nI_add, Mp2 hm, bs, nI_add]
    obtain ⟨σ', i1, i2, i3, i4, i5, i6⟩ := ih (k + 1) f (sI (sA σ 1 (upd (gA σ 1) (n + k) (nI (v / 256 ^ k)).toInt8.toInt32)) 2 (nI (n + k + 1))) (by omega) (by omega) (by rw [gI_sI, if_pos rfl, Nat.add_assoc]) (by
      intro i
      show isB (upd (gA σ 1) (n + k) (nI (v / 256 ^ k)).toInt8.toInt32 i)
      by_cases e : i = n + k
      · rw [e, upd_eq, toInt8_mod]; exact isB_n8 _ (Nat.mod_lt _ (by decide))
      · rw [upd_ne e]; exact hB i) (fdd_s hc)
    refine ⟨σ', i1, i2, ?_, ?_, ?_, ?_⟩
    · intro i hi
      rw [i3 i hi, gI_sI, if_neg hi]
      rfl
    · intro i; rw [i4 i]; rfl
    · intro i hi
      rw [i5 i hi]
      show gA (sA σ 1 _) i = _
      rw [gA_sA, if_neg hi]
    · intro i; rw [i6 i]; rfl
end DRP
