section
/-! the reference boots: all of it, put together (steps spelled out by sf/pp.py) -/
def BF2 (σ0 σ : px_S) : Prop := FR [0, 44, 102, 103, 115] [104] [45, 46, 100] [47, 105, 106, 107, 108, 109, 110, 111, 112, 113, 114] σ0 σ
/-- what a boot leaves -/
def BEn (a1 : Int32) (σ σ' : px_S) : Prop := BFr σ σ' ∧ gI σ' 2 = (if a1 = 0 then gI σ 2 else nI 0) ∧ MV σ' ∧ MNa σ'
section MBY
variable {F m : Nat} {h : px_H} {σ0 σ : px_S} {s : Nat}
theorem sm_b_74 (hm : m ≤ h.length) (hF : 65540 < F) (hs : s ≤ 65536) (es : gI σ 101 = nI s) (hv : MV σ) (hn : MNa σ) : Sm m h (fun σ' => BF2 σ σ' ∧ MV σ' ∧ MNa σ') Any (f_M_boot_74 F m (mh m h σ)) := by
  unfold f_M_boot_74
  refine sm_o hm (fun _ => sm_x (sm_triedErr hm hF hs es) (fun v σ2 hv2 hi => ?_))
  obtain ⟨r, hr, hf, er, ht⟩ := hi
  rw [Mp103 hm, bs, Mg103 hm, bs, gI_sI, if_pos rfl]
  refine sm_i (fun _ => ?_) (fun _ => ?_)
  · rw [Mg115 hm, bs, gI_sI, if_neg (by decide), er, Mp102 hm, bs]
    refine sm_o hm (fun _ => sm_tn hm (by omega) (by decide) (by decide) (fun y hy => ?_))
    rw [Mp104 hm, bs]
    have e101 : gI σ2 101 = nI s := (hf.1 101 (by decide)).trans es
    refine sm_wI (sm_b_116 (F := F) (s := s) (r := r) hm hF hs hr s 0 F _ (Nat.zero_add _) (by omega) (by rw [gI_sJ, gI_sI, if_neg (by decide), gI_sI, if_neg (by decide)]; exact e101) (by rw [gI_sJ, gI_sI, if_pos rfl])) (fun σ' w => ?_)
    obtain ⟨σa, σb, c, w1, hc, ⟨w2, ec, hnm⟩, w3, w4⟩ := w
    refine ⟨?_, ⟨r, hr, ?_, fun i hi => ?_⟩, ⟨c, hc, ?_, fun i hi => ?_⟩⟩
    · refine FR_trans (FR_trans (FR_trans (FR_trans (FR_trans (FR_trans (FR_mono hf ?_ ?_ ?_ ?_) (FR_mono (FR_I σ2 103 v) ?_ ?_ ?_ ?_)) (FR_mono (FR_I _ 102 (nI r)) ?_ ?_ ?_ ?_)) (FR_mono (FR_J _ 104 _) ?_ ?_ ?_ ?_)) (FR_mono w1 ?_ ?_ ?_ ?_)) (FR_mono w2 ?_ ?_ ?_ ?_)) (FR_mono w3 ?_ ?_ ?_ ?_)
      all_goals decide
    · rw [w3.1 102 List.not_mem_nil, w2.1 102 (by decide), w1.1 102 List.not_mem_nil, gI_sJ, gI_sI, if_pos rfl]
    · obtain ⟨e1, e2, e3⟩ := w4 i hi
      rw [e1, e2, e3, w2.2.2.2 111 (by decide), w2.2.2.2 112 (by decide), w2.2.2.2 113 (by decide), w1.2.2.2 111 List.not_mem_nil, w1.2.2.2 112 List.not_mem_nil, w1.2.2.2 113 List.not_mem_nil]
      exact ht i hi
    · rw [w3.1 44 List.not_mem_nil]; exact ec
    · rw [w3.2.2.1 45 List.not_mem_nil, w3.2.2.1 46 List.not_mem_nil]; exact hnm i hi
  · rw [bs]
    obtain ⟨r0, hr0, er0, h0⟩ := hv
    obtain ⟨c0, hc0, ec0, hn0⟩ := hn
    refine sm_r any ⟨?_, ⟨r0, hr0, ?_, fun i hi => ?_⟩, ⟨c0, hc0, ?_, fun i hi => ?_⟩⟩
    · refine FR_trans (FR_mono hf ?_ ?_ ?_ ?_) (FR_mono (FR_I σ2 103 v) ?_ ?_ ?_ ?_)
      all_goals decide
    · rw [gI_sI, if_neg (by decide), hf.1 102 (by decide)]; exact er0
    · rw [gB_sI, gB_sI, gB_sI, hf.2.2.2 106 (by decide), hf.2.2.2 107 (by decide), hf.2.2.2 108 (by decide)]; exact h0 i hi
    · rw [gI_sI, if_neg (by decide), hf.1 44 (by decide)]; exact ec0
    · rw [gA_sI, gA_sI, hf.2.2.1 45 List.not_mem_nil, hf.2.2.1 46 List.not_mem_nil]; exact hn0 i hi
/-- the bytes are taken over to be tried, from the tape or from OUT -/
theorem sm_b_26 {a1 : Int32} (hm : m ≤ h.length) (hF : 65540 < F) (hs : s ≤ 65536) (hs1 : ¬ a1 = 0 → s ≤ 8192) : ∀ (d j f : Nat) (σ : px_S), j + d = s → d < f → gI σ 101 = nI s → MV σ → MNa σ → Sm m h (BEn a1 σ) Any (f_M_boot_26 F f m a1 (nI j) (mh m h σ)) := by
  have up : ∀ {τ τ' : px_S}, BF2 τ τ' → BFr τ τ' := fun w => FR_mono w (by decide) (by decide) (by decide) (by decide)
  intro d
  induction d with
  | zero =>
    intro j f σ hj hf es hv hn
    obtain ⟨f, rfl⟩ : ∃ y, f = y + 1 := ⟨f - 1, by omega⟩
    unfold f_M_boot_26 f_M_boot_65
    rw [Mg101 hm, bs, es, if_pos (nI_le (by omega) (by omega))]
    by_cases c : a1 = 0
    · rw [if_pos c]
      refine sm_wI (sm_b_74 hm hF hs es hv hn) (fun σ' w => ⟨up w.1, ?_, w.2.1, w.2.2⟩)
      rw [if_pos c]
      exact w.1.1 2 (by decide)
    · rw [if_neg c, Mp2 hm, bs]
      refine sm_wI (sm_b_74 (σ := sI σ 2 (nI 0)) hm hF hs es hv hn) (fun σ' w => ⟨FR_trans (FR_mono (FR_I _ _ _) (by decide) (by decide) (by decide) (by decide)) (up w.1), ?_, w.2.1, w.2.2⟩)
      rw [if_neg c, w.1.1 2 (by decide), gI_sI, if_pos rfl]
  | succ d ih =>
    intro j f σ hj hf es hv hn
    obtain ⟨f, rfl⟩ : ∃ y, f = y + 1 := ⟨f - 1, by omega⟩
    have go : ∀ v, Sm m h (BEn a1 σ) Any (f_M_boot_26 F f m a1 (nI (j + 1)) (mh m h (sA σ 99 (upd (gA σ 99) j v)))) := fun v => sm_wI (ih (j + 1) f (sA σ 99 (upd (gA σ 99) j v)) (by omega) (by omega) es hv hn) (fun σ' w => ⟨FR_trans (FR_mono (FR_A _ _ _) (by decide) (by decide) (by decide) (by decide)) w.1, w.2.1, w.2.2.1, w.2.2.2⟩)
    unfold f_M_boot_26 f_M_boot_58
    rw [Mg101 hm, bs, es, if_neg (nI_ge (by omega) (by omega)), Mr99 hm, bs]
    by_cases c : a1 = 0
    · rw [if_pos c, Mr3 hm, bs, Ma3 hm (by omega), bs, Ms99 hm (by omega), bs, nI_add]
      exact go _
    · have h8 := hs1 c
      rw [if_neg c, Mr1 hm, bs, Ma1 hm (by omega), bs, Ms99 hm (by omega), bs, nI_add]
      exact go _
theorem sm_boot {a1 : Int32} {n : Nat} {b : Nat → Nat} (hm : m ≤ h.length) (hF : 65540 < F) (ht : RT σ n b) (ho : OUo σ) (hv : MV σ) (hn : MNa σ) : Sm m h (BEn a1 σ) Any (f_M_boot F m a1 (mh m h σ)) := by
  obtain ⟨⟨c, hc, ec⟩, _⟩ := ho
  unfold f_M_boot f_M_boot_21
  rw [Mp0 hm, bs]
  have fin : ∀ k : Nat, k ≤ 65536 → (¬ a1 = 0 → k ≤ 8192) → Sm m h (BEn a1 σ) Any (f_M_boot_26 F F m a1 (nI 0) (mh m h (sI (sI σ 0 (nI 0)) 101 (nI k)))) := fun k hk hk1 => sm_wI (sm_b_26 (s := k) (σ := sI (sI σ 0 (nI 0)) 101 (nI k)) hm hF hk hk1 k 0 F (Nat.zero_add _) (by omega) (by rw [gI_sI, if_pos rfl]) hv hn) (fun σ' w => ⟨FR_trans (FR_trans (FR_mono (FR_I _ _ _) (by decide) (by decide) (by decide) (by decide)) (FR_mono (FR_I _ _ _) (by decide) (by decide) (by decide) (by decide))) w.1, w.2.1, w.2.2.1, w.2.2.2⟩)
  by_cases c0 : a1 = 0
  · rw [if_pos c0, Mg4 hm, bs, gI_sI, if_neg (by decide), ec, Mp101 hm, bs]
    exact fin c hc (fun w => absurd c0 w)
  · rw [if_neg c0, Mg2 hm, bs, gI_sI, if_neg (by decide), ht.1, Mp101 hm, bs]
    exact fin n (by have := ht.2.1; omega) (fun _ => ht.2.1)
end MBY
end
section
/-! the reference says a number: safe (steps spelled out by sf/pp.py) -/
/-- how many digits -/
def wdN (v : Nat) : Nat := if v < 10 then 1 else if v < 100 then 2 else if v < 1000 then 3 else if v < 10000 then 4 else 5
section MDG
variable {F m : Nat} {h : px_H} {σ0 σ : px_S} {c : Nat}
theorem nI_divG {a b : Nat} (ha : a < 2 ^ 30) (hb : b < 2 ^ 30) : nI a / nI b = nI (a / b) := by
  apply Int32.toInt_inj.mp
  rw [Int32.toInt_div]
  have hd : a / b ≤ a := Nat.div_le_self _ _
  have e1 : (nI a).toInt = (a : Int) := nI_toInt (by omega)
  have e2 : (nI b).toInt = (b : Int) := nI_toInt (by omega)
  have e3 : (nI (a / b)).toInt = ((a / b : Nat) : Int) := nI_toInt (by omega)
  rw [e1, e2, e3, Int.tdiv_eq_ediv_of_nonneg (Int.natCast_nonneg a), ← Int.natCast_ediv]
  generalize a / b = q at hd
  exact Int.bmod_eq_of_le (by omega) (by omega)
theorem q_wide {v : Nat} {ph : px_H} (hv : v < 2 ^ 30) : f_M_wide F (nI v) ph = some (nI (wdN v), ph) := by
  unfold f_M_wide f_M_wide_43 wdN
  by_cases c1 : v < 10
  · rw [if_neg (nI_ge c1 (by omega)), if_pos c1]
  · rw [if_pos (nI_le (show 10 ≤ v by omega) (by omega)), if_neg c1]
    by_cases c2 : v < 100
    · rw [if_neg (nI_ge c2 (by omega)), if_pos c2]
    · rw [if_pos (nI_le (show 100 ≤ v by omega) (by omega)), if_neg c2]
      by_cases c3 : v < 1000
      · rw [if_neg (nI_ge c3 (by omega)), if_pos c3]
      · rw [if_pos (nI_le (show 1000 ≤ v by omega) (by omega)), if_neg c3]
        by_cases c4 : v < 10000
        · rw [if_neg (nI_ge c4 (by omega)), if_pos c4]
        · rw [if_pos (nI_le (show 10000 ≤ v by omega) (by omega)), if_neg c4]
theorem sm_dg_21 {v : Int32} (hm : m ≤ h.length) : ∀ (k f p : Nat) (σ : px_S), k ≤ 5 → k < f → p + k ≤ 65536 → OWi σ0 σ c → Sm m h (fun σ' => OWi σ0 σ' c) Any (f_M_digits_21 F f m v (nI (10 ^ k / 10)) (nI p) (mh m h σ)) := by
  intro k
  induction k with
  | zero =>
    intro f p σ hk hf hp hI
    obtain ⟨f, rfl⟩ : ∃ y, f = y + 1 := ⟨f - 1, by omega⟩
    unfold f_M_digits_21 f_M_digits_53
    rw [if_pos (by decide)]
    exact sm_r any hI
  | succ k ih =>
    intro f p σ hk hf hp hI
    obtain ⟨f, rfl⟩ : ∃ y, f = y + 1 := ⟨f - 1, by omega⟩
    have e10 : 10 ^ (k + 1) / 10 = 10 ^ k := by rw [Nat.pow_succ, Nat.mul_div_cancel _ (by decide)]
    have hb : 10 ^ k ≤ 10 ^ 4 := Nat.pow_le_pow_right (by decide) (by omega)
    have h1 : 1 ≤ 10 ^ k := Nat.pos_of_ne_zero (by simp)
    rw [e10]
    have hn : ¬ nI (10 ^ k) ≤ 0 := fun w => absurd w (nI_ge (a := 0) (b := 10 ^ k) (by omega) (by omega))
    have hx : xnzI (nI (10 ^ k)) = some () := by
      unfold xnzI
      rw [if_neg (fun w => hn (by rw [w]; decide))]
    unfold f_M_digits_21
    rw [if_neg hn, Mr3 hm, bs, hx, bs, nI_divG (by omega) (by decide), nI_add]
    exact sm_w3 hm hI (by omega) (fun σ hi => ih f (p + 1) σ (by omega) (by omega) (by omega) hi)
theorem sm_dg_2 {v p : Nat} (hm : m ≤ h.length) (hF : 65540 < F) (hv : v ≤ 99999) (hp : p + wdN v ≤ 65536) (hI : OWi σ0 σ c) : ∀ (d k f : Nat), k + d = 4 → d < f → 10 ^ k ≤ v ∨ k = 0 → Sm m h (fun σ' => OWi σ0 σ' c) Any (f_M_digits_2 F f m (nI p) (nI v) (nI (10 ^ k)) (mh m h σ)) := by
  have stop : ∀ k, k ≤ 4 → (10 ^ k ≤ v ∨ k = 0) → v < 10 ^ (k + 1) → Sm m h (fun σ' => OWi σ0 σ' c) Any (f_M_digits_18 F m (nI p) (nI v) (nI (10 ^ k)) (mh m h σ)) := fun k hk h1 h2 => by
    have e10 : 10 ^ k = 10 ^ (k + 1) / 10 := by rw [Nat.pow_succ, Nat.mul_div_cancel _ (by decide)]
    have hw : wdN v = k + 1 := by
      have : k = 0 ∨ k = 1 ∨ k = 2 ∨ k = 3 ∨ k = 4 := by omega
      unfold wdN
      rcases this with rfl | rfl | rfl | rfl | rfl
      · rw [if_pos (by omega)]
      · rw [if_neg (by omega), if_pos (by omega)]
      · rw [if_neg (by omega), if_neg (by omega), if_pos (by omega)]
      · rw [if_neg (by omega), if_neg (by omega), if_neg (by omega), if_pos (by omega)]
      · rw [if_neg (by omega), if_neg (by omega), if_neg (by omega), if_neg (by omega)]
    unfold f_M_digits_18
    rw [e10]
    exact sm_dg_21 hm (k + 1) F p σ (by omega) (by omega) (by omega) hI
  have nz : ∀ k, k ≤ 4 → xnzI (nI (10 ^ k)) = some () := fun k hk => by
    have : k = 0 ∨ k = 1 ∨ k = 2 ∨ k = 3 ∨ k = 4 := by omega
    rcases this with rfl | rfl | rfl | rfl | rfl <;> decide
  have bd : ∀ k, k ≤ 4 → 1 ≤ 10 ^ k ∧ 10 ^ k ≤ 10000 := fun k hk => ⟨Nat.pos_of_ne_zero (by simp), (Nat.pow_le_pow_right (by decide) hk : 10 ^ k ≤ 10 ^ 4)⟩
  have dv : ∀ k, k ≤ 4 → (v / 10 ^ k ≤ 9 ↔ v < 10 ^ (k + 1)) := fun k hk => by
    rw [Nat.pow_succ, Nat.mul_comm, ← Nat.div_lt_iff_lt_mul (bd k hk).1]; omega
  intro d
  induction d with
  | zero =>
    intro k f hk hf h1
    obtain ⟨f, rfl⟩ : ∃ y, f = y + 1 := ⟨f - 1, by omega⟩
    obtain rfl : k = 4 := by omega
    unfold f_M_digits_2
    rw [nz 4 (by decide), bs, nI_divG (by omega) (by decide), if_pos (nI_le ((dv 4 (by decide)).mpr (by omega)) (by decide))]
    exact stop 4 (by decide) h1 (by omega)
  | succ d ih =>
    intro k f hk hf h1
    obtain ⟨f, rfl⟩ : ∃ y, f = y + 1 := ⟨f - 1, by omega⟩
    have hb := bd k (by omega)
    unfold f_M_digits_2
    rw [nz k (by omega), bs, nI_divG (by omega) (by omega)]
    by_cases c9 : v / 10 ^ k ≤ 9
    · rw [if_pos (nI_le c9 (by decide))]
      exact stop k (by omega) h1 ((dv k (by omega)).mp c9)
    · have hd : v / 10 ^ k ≤ v := Nat.div_le_self _ _
      rw [if_neg (nI_ge (by omega) (by omega)), show nI 10 * nI (10 ^ k) = nI (10 * 10 ^ k) from (Int32.ofNat_mul 10 (10 ^ k)).symm, Nat.mul_comm 10 (10 ^ k), ← Nat.pow_succ]
      exact ih (k + 1) f (by omega) (by omega) (Or.inl (Nat.le_of_not_lt (fun w => c9 ((dv k (by omega)).mpr w))))
/-- a number and what comes behind it -/
theorem sm_sayN {v : Nat} {w : Int32} (hm : m ≤ h.length) (hF : 65540 < F) (hv : v ≤ 99999) (hc : c + wdN v + 1 ≤ 65536) (hI : OWi σ0 σ c) : Sm m h (fun σ' => OWi σ0 σ' (c + wdN v + 1)) Any (f_M_sayNumber F m (nI v) w (mh m h σ)) := by
  unfold f_M_sayNumber f_M_digits
  rw [Mg4 hm, bs, hI.2.1]
  refine sm_o hm (fun _ => sm_x (sm_dg_2 hm hF hv (by omega) hI 4 0 F rfl (by omega) (Or.inr rfl)) (fun _ σ _ hi => ?_))
  rw [Mg4 hm, bs, hi.2.1, q_wide (by omega), xb_mk, nI_add]
  refine sm_p4 hm hi (fun σ hi => ?_)
  rw [Mr3 hm, bs, Mg4 hm, bs, hi.2.1]
  refine sm_w3 hm hi (by omega) (fun σ hi => ?_)
  rw [Mg4 hm, bs, hi.2.1, nI_add]
  exact sm_p4 hm hi (fun σ hi => sm_r any hi)
end MDG
end
section
/-! the reference's map: safe (steps spelled out by sf/pp.py) -/
def sumT (f : Nat → Nat) : Nat → Nat
  | 0 => 0
  | n + 1 => sumT f n + f n
theorem sumT_le {f : Nat → Nat} : ∀ {a b : Nat}, a ≤ b → sumT f a ≤ sumT f b
  | a, 0, h => by rw [Nat.le_zero.mp h]; exact Nat.le_refl _
  | a, b + 1, h => by
    by_cases e : a = b + 1
    · rw [e]; exact Nat.le_refl _
    · exact Nat.le_trans (sumT_le (by omega)) (Nat.le_add_right _ _)
theorem sumT_b {f : Nat → Nat} {k : Nat} (hf : ∀ i, f i ≤ k) : ∀ n, sumT f n ≤ k * n
  | 0 => Nat.le_refl _
  | n + 1 => by
    have := sumT_b hf n
    have := hf n
    rw [Nat.mul_succ]
    show sumT f n + f n ≤ k * n + k
    omega
theorem wdN_b (v : Nat) : 1 ≤ wdN v ∧ wdN v ≤ 5 := by
  unfold wdN
  by_cases c1 : v < 10
  · rw [if_pos c1]; decide
  · rw [if_neg c1]
    by_cases c2 : v < 100
    · rw [if_pos c2]; decide
    · rw [if_neg c2]
      by_cases c3 : v < 1000
      · rw [if_pos c3]; decide
      · rw [if_neg c3]
        by_cases c4 : v < 10000
        · rw [if_pos c4]; decide
        · rw [if_neg c4]; decide
theorem wdN_1 {v : Nat} (h : v < 10) : wdN v = 1 := if_pos h
/-- what the map reads: the sections in order, the names in order -/
def MPs (σ : px_S) (nS nD : Nat) (zf uf gf ff mf lf df : Nat → Nat) : Prop := (nS ≤ 1536 ∧ gI σ 50 = nI nS ∧ ∀ p, p < nS → gA σ 56 p = nI (zf p) ∧ zf p ≤ 99999 ∧ gA σ 54 p = nI (uf p) ∧ uf p ≤ 99999 ∧ gA σ 55 p = nI (gf p) ∧ gf p < 10 ∧ gA σ 52 p = nI (ff p) ∧ ff p < 10 ∧ gA σ 53 p = nI (mf p) ∧ mf p < 10) ∧ nD ≤ 4096 ∧ gI σ 48 = nI nD ∧ ∀ i, i < nD → gA σ 49 i = nI (df i) ∧ df i < 4096 ∧ gA σ 22 (df i) = nI (lf i) ∧ lf i ≤ 20
section MMP
variable {F m : Nat} {h : px_H} {σ0 σ : px_S} {c nS nD : Nat} {zf uf gf ff mf lf df : Nat → Nat}
theorem MPs_O (hM : MPs σ0 nS nD zf uf gf ff mf lf df) (hI : OWi σ0 σ c) : MPs σ nS nD zf uf gf ff mf lf df := by
  obtain ⟨⟨h1, h2, h3⟩, h4, h5, h6⟩ := hM
  have a : ∀ k, k ≠ 3 → gA σ k = gA σ0 k := fun k hk => hI.1.2.2.1 k (by simpa using hk)
  refine ⟨⟨h1, (hI.1.1 50 (by decide)).trans h2, fun p hp => ?_⟩, h4, (hI.1.1 48 (by decide)).trans h5, fun i hi => ?_⟩
  · rw [a 56 (by decide), a 54 (by decide), a 55 (by decide), a 52 (by decide), a 53 (by decide)]; exact h3 p hp
  · rw [a 49 (by decide), a 22 (by decide)]; exact h6 i hi
theorem sm_mp_291 {k234 : Nat → Int32 → px_H → Option (Int32 × px_H)} {i d l c0 : Nat} (hm : m ≤ h.length) (hd : d < 4096) (hl : l ≤ 20) (e22 : gA σ0 22 d = nI l) (hc : c0 + l + 1 ≤ 65536) (hK : ∀ σ, OWi σ0 σ (c0 + l + 1) → Sm m h (OWe σ0) Any (k234 m (nI (i + 1)) (mh m h σ))) : ∀ (e j f : Nat) (σ : px_S), j + e = l → e < f → OWi σ0 σ (c0 + j) → Sm m h (OWe σ0) Any (f_M_map_291 F k234 f m (nI i) (nI d) (nI j) (mh m h σ)) := by
  intro e
  induction e with
  | zero =>
    intro j f σ hj hf hI
    obtain ⟨f, rfl⟩ : ∃ y, f = y + 1 := ⟨f - 1, by omega⟩
    obtain rfl : j = l := by omega
    have g22 : gA σ 22 = gA σ0 22 := hI.1.2.2.1 22 (by decide)
    unfold f_M_map_291 f_M_map_339
    rw [Mr22 hm, bs, Ma22 hm hd, bs, g22, e22, if_pos (nI_le (by omega) (by omega)), Mr3 hm, bs, Mg4 hm, bs, hI.2.1, nI_add]
    refine sm_w3 hm hI (by omega) (fun σ hi => ?_)
    rw [Mg4 hm, bs, hi.2.1, nI_add]
    exact sm_p4 hm hi (fun σ hi => hK σ hi)
  | succ e ih =>
    intro j f σ hj hf hI
    obtain ⟨f, rfl⟩ : ∃ y, f = y + 1 := ⟨f - 1, by omega⟩
    have g22 : gA σ 22 = gA σ0 22 := hI.1.2.2.1 22 (by decide)
    unfold f_M_map_291
    rw [Mr22 hm, bs, Ma22 hm hd, bs, g22, e22, if_neg (nI_ge (by omega) (by omega)), Mr3 hm, bs, Mg4 hm, bs, hI.2.1, Mr21 hm, bs, show nI 20 * nI d = nI (20 * d) from (Int32.ofNat_mul 20 d).symm, nI_add, Ma21 hm (by omega), bs, nI_add]
    refine sm_w3 hm hI (by omega) (fun σ hi => ?_)
    rw [Mg4 hm, bs, hi.2.1, nI_add, Nat.add_assoc]
    exact sm_p4 hm hi (fun σ hi => ih (j + 1) f σ (by omega) (by omega) hi)
theorem sm_mp_234 {T : Nat} (hm : m ≤ h.length) (hF : 65540 < F) (hM : MPs σ0 nS nD zf uf gf ff mf lf df) (hT : T + sumT (fun i => 18 + lf i) nD ≤ 65536) : ∀ (d j f : Nat) (σ : px_S), j + d = nD → d < f → OWi σ0 σ (T + sumT (fun i => 18 + lf i) j) → Sm m h (OWe σ0) Any (f_M_map_234 F f m (nI j) (mh m h σ)) := by
  have hN := hM.2.1
  intro d
  induction d with
  | zero =>
    intro j f σ hj hf hI
    obtain ⟨f, rfl⟩ : ∃ y, f = y + 1 := ⟨f - 1, by omega⟩
    obtain rfl : j = nD := by omega
    unfold f_M_map_234 f_M_map_366
    rw [Mg48 hm, bs, (MPs_O hM hI).2.2.1, if_pos (nI_le (by omega) (by omega)), Mg4 hm, bs]
    exact sm_r any ⟨_, hT, hI⟩
  | succ d ih =>
    intro j f σ hj hf hI
    obtain ⟨f, rfl⟩ : ∃ y, f = y + 1 := ⟨f - 1, by omega⟩
    obtain ⟨e49, hd, e22, hl⟩ := hM.2.2.2 j (by omega)
    have g49 : gA σ 49 = gA σ0 49 := hI.1.2.2.1 49 (by decide)
    have hle := sumT_le (f := fun i => 18 + lf i) (show j + 1 ≤ nD by omega)
    have es : sumT (fun i => 18 + lf i) (j + 1) = sumT (fun i => 18 + lf i) j + (18 + lf j) := rfl
    unfold f_M_map_234
    rw [Mg48 hm, bs, (MPs_O hM hI).2.2.1, if_neg (nI_ge (by omega) (by omega)), Mr49 hm, bs, Ma49 hm (by omega), bs, g49, e49, Mg4 hm, bs, hI.2.1, Mr29 hm, bs, Ma29 hm hd, bs]
    generalize sumT (fun i => 18 + lf i) j = S at *
    refine sm_o hm (fun _ => sm_x (sm_16_3 (F := F) (p := T + S) hm (by omega) 16 0 F σ rfl (by omega) hI) (fun _ σ _ hi => ?_))
    rw [Mr3 hm, bs, Mg4 hm, bs, hi.2.1, nI_add]
    refine sm_w3 hm hi (by omega) (fun σ hi => ?_)
    rw [Mg4 hm, bs, hi.2.1, nI_add]
    refine sm_p4 hm hi (fun σ hi => ?_)
    exact sm_mp_291 (c0 := T + S + 17) (l := lf j) hm hd hl e22 (by omega) (fun σ hi => ih (j + 1) f σ (by omega) (by omega) (by rw [es]; rw [show T + (S + (18 + lf j)) = T + S + 17 + lf j + 1 by omega]; exact hi)) (lf j) 0 F σ (Nat.zero_add _) (by omega) hi
end MMP
end
section
/-! the reference's map, whole: safe (steps spelled out by sf/pp.py) -/
theorem sumT_b' {f : Nat → Nat} {k : Nat} : ∀ {n : Nat}, (∀ i, i < n → f i ≤ k) → sumT f n ≤ k * n
  | 0, _ => Nat.le_refl _
  | n + 1, hf => by
    have h1 := sumT_b' (n := n) (fun i hi => hf i (by omega))
    have h2 := hf n (by omega)
    rw [Nat.mul_succ]
    show sumT f n + f n ≤ k * n + k
    omega
section MMQ
variable {F m : Nat} {h : px_H} {σ0 σ : px_S} {c nS nD : Nat} {zf uf gf ff mf lf df : Nat → Nat}
theorem sm_mp_119 (hm : m ≤ h.length) (hF : 65540 < F) (hM : MPs σ0 nS nD zf uf gf ff mf lf df) (hT : sumT (fun p => 25 + wdN (zf p) + wdN (uf p)) nS + sumT (fun i => 18 + lf i) nD ≤ 65536) : ∀ (d j f : Nat) (σ : px_S), j + d = nS → d < f → OWi σ0 σ (sumT (fun p => 25 + wdN (zf p) + wdN (uf p)) j) → Sm m h (OWe σ0) Any (f_M_map_119 F f m (nI j) (mh m h σ)) := by
  have hN := hM.1.1
  have hN2 := hM.2.1
  intro d
  induction d with
  | zero =>
    intro j f σ hj hf hI
    obtain ⟨f, rfl⟩ : ∃ y, f = y + 1 := ⟨f - 1, by omega⟩
    obtain rfl : j = nS := by omega
    unfold f_M_map_119 f_M_map_232
    rw [Mg50 hm, bs, (MPs_O hM hI).1.2.1, if_pos (nI_le (by omega) (by omega))]
    exact sm_mp_234 hm hF hM hT nD 0 F σ (Nat.zero_add _) (by omega) hI
  | succ d ih =>
    intro j f σ hj hf hI
    obtain ⟨f, rfl⟩ : ∃ y, f = y + 1 := ⟨f - 1, by omega⟩
    have hj1 : j < 1536 := by omega
    have hle := sumT_le (f := fun p => 25 + wdN (zf p) + wdN (uf p)) (show j + 1 ≤ nS by omega)
    have es : sumT (fun p => 25 + wdN (zf p) + wdN (uf p)) (j + 1) = sumT (fun p => 25 + wdN (zf p) + wdN (uf p)) j + (25 + wdN (zf j) + wdN (uf j)) := rfl
    unfold f_M_map_119
    rw [Mg50 hm, bs, (MPs_O hM hI).1.2.1, if_neg (nI_ge (by omega) (by omega)), Mg4 hm, bs, hI.2.1, Mr57 hm, bs, Ma57 hm hj1, bs, nI_add]
    generalize sumT (fun p => 25 + wdN (zf p) + wdN (uf p)) j = S at *
    generalize sumT (fun p => 25 + wdN (zf p) + wdN (uf p)) nS = SS at *
    have wz := wdN_b (zf j)
    have wu := wdN_b (uf j)
    refine sm_o hm (fun _ => sm_x (sm_16_3 (F := F) (p := S) hm (by omega) 16 0 F σ rfl (by omega) hI) (fun _ σ _ hi => ?_))
    rw [Mr3 hm, bs, Mg4 hm, bs, hi.2.1, nI_add]
    refine sm_w3 hm hi (by omega) (fun σ hi => ?_)
    rw [Mg4 hm, bs, hi.2.1, nI_add]
    refine sm_p4 hm hi (fun σ hi => ?_)
    obtain ⟨z1, z2, _⟩ := (MPs_O hM hi).1.2.2 j (by omega)
    rw [Mr56 hm, bs, Ma56 hm hj1, bs, z1]
    refine sm_o hm (fun _ => sm_x (sm_sayN hm hF z2 (by omega) hi) (fun _ σ _ hi => ?_))
    obtain ⟨_, _, _, _, g1, g2, _⟩ := (MPs_O hM hi).1.2.2 j (by omega)
    rw [Mr55 hm, bs, Ma55 hm hj1, bs, g1]
    refine sm_o hm (fun _ => sm_x (sm_sayN hm hF (by omega) (by rw [wdN_1 g2]; omega) hi) (fun _ σ _ hi => ?_))
    obtain ⟨_, _, _, _, _, _, f1, f2, _⟩ := (MPs_O hM hi).1.2.2 j (by omega)
    rw [wdN_1 g2] at hi
    rw [Mr52 hm, bs, Ma52 hm hj1, bs, f1]
    refine sm_o hm (fun _ => sm_x (sm_sayN hm hF (by omega) (by rw [wdN_1 f2]; omega) hi) (fun _ σ _ hi => ?_))
    obtain ⟨_, _, _, _, _, _, _, _, m1, m2⟩ := (MPs_O hM hi).1.2.2 j (by omega)
    rw [wdN_1 f2] at hi
    rw [Mr53 hm, bs, Ma53 hm hj1, bs, m1]
    refine sm_o hm (fun _ => sm_x (sm_sayN hm hF (by omega) (by rw [wdN_1 m2]; omega) hi) (fun _ σ _ hi => ?_))
    obtain ⟨_, _, u1, u2, _⟩ := (MPs_O hM hi).1.2.2 j (by omega)
    rw [wdN_1 m2] at hi
    rw [Mr54 hm, bs, Ma54 hm hj1, bs, u1]
    refine sm_o hm (fun _ => sm_x (sm_sayN hm hF u2 (by omega) hi) (fun _ σ _ hi => ?_))
    refine ih (j + 1) f σ (by omega) (by omega) ?_
    rw [es, show S + (25 + wdN (zf j) + wdN (uf j)) = S + 17 + wdN (zf j) + 1 + 1 + 1 + 1 + 1 + 1 + 1 + wdN (uf j) + 1 by omega]
    exact hi
theorem sm_mp_73 {T : Nat} (hm : m ≤ h.length) (hF : 65540 < F) (ho : OUo σ0) (hM : MPs σ0 nS nD zf uf gf ff mf lf df) (eT : T = sumT (fun p => 25 + wdN (zf p) + wdN (uf p)) nS) (hTb : T ≤ 53760) (hf0 : FR [0] [] [] [] σ0 σ) : ∀ (d j f : Nat), j + d = nD → d < f → Sm m h (OWe σ0) Any (f_M_map_73 F f m (nI (T + sumT (fun i => 18 + lf i) j)) (nI j) (mh m h σ)) := by
  have hN := hM.1.1
  have hN2 := hM.2.1
  obtain ⟨co, hco, hO⟩ := OWe_0 ho hf0
  have hMs := MPs_O hM hO
  intro d
  induction d with
  | zero =>
    intro j f hj hf
    obtain ⟨f, rfl⟩ : ∃ y, f = y + 1 := ⟨f - 1, by omega⟩
    obtain rfl : j = nD := by omega
    unfold f_M_map_73 f_M_map_104
    rw [Mg48 hm, bs, hMs.2.2.1, if_pos (nI_le (by omega) (by omega))]
    have hB := sumT_b' (f := fun i => 18 + lf i) (k := 38) (n := j) (fun i hi => by have := (hM.2.2.2 i hi).2.2.2; show 18 + lf i ≤ 38; omega)
    by_cases hle : T + sumT (fun i => 18 + lf i) j ≤ 65536
    · rw [if_pos (show nI (T + sumT (fun i => 18 + lf i) j) ≤ (65536 : Int32) from nI_le hle (by decide)), Mp4 hm, bs]
      exact sm_mp_119 hm hF hM (by rw [← eT]; exact hle) nS 0 F _ (Nat.zero_add _) (by omega) (OWi_p hO)
    · rw [if_neg (show ¬ nI (T + sumT (fun i => 18 + lf i) j) ≤ (65536 : Int32) from nI_ge (a := 65536) (by omega) (by omega))]
      exact sm_r any ⟨co, hco, hO⟩
  | succ d ih =>
    intro j f hj hf
    obtain ⟨f, rfl⟩ : ∃ y, f = y + 1 := ⟨f - 1, by omega⟩
    obtain ⟨e49, hd, e22, hl⟩ := hMs.2.2.2 j (by omega)
    have es : sumT (fun i => 18 + lf i) (j + 1) = sumT (fun i => 18 + lf i) j + (18 + lf j) := rfl
    have go := ih (j + 1) f (by omega) (by omega)
    unfold f_M_map_73
    rw [Mg48 hm, bs, hMs.2.2.1, if_neg (nI_ge (by omega) (by omega)), Mr22 hm, bs, Mr49 hm, bs, Ma49 hm (by omega), bs, e49, Ma22 hm hd, bs, e22, nI_add, nI_add, nI_add, Nat.add_assoc, ← es]
    exact go
theorem sm_mp_26 (hm : m ≤ h.length) (hF : 65540 < F) (ho : OUo σ0) (hM : MPs σ0 nS nD zf uf gf ff mf lf df) (hf0 : FR [0] [] [] [] σ0 σ) : ∀ (d j f : Nat), j + d = nS → d < f → Sm m h (OWe σ0) Any (f_M_map_26 F f m (nI (sumT (fun p => 25 + wdN (zf p) + wdN (uf p)) j)) (nI j) (mh m h σ)) := by
  have hN := hM.1.1
  have hN2 := hM.2.1
  obtain ⟨co, hco, hO⟩ := OWe_0 ho hf0
  have hMs := MPs_O hM hO
  intro d
  induction d with
  | zero =>
    intro j f hj hf
    obtain ⟨f, rfl⟩ : ∃ y, f = y + 1 := ⟨f - 1, by omega⟩
    obtain rfl : j = nS := by omega
    have hB := sumT_b' (f := fun p => 25 + wdN (zf p) + wdN (uf p)) (k := 35) (n := j) (fun i hi => by have w1 := (wdN_b (zf i)).2; have w2 := (wdN_b (uf i)).2; show 25 + wdN (zf i) + wdN (uf i) ≤ 35; omega)
    unfold f_M_map_26 f_M_map_71
    rw [Mg50 hm, bs, hMs.1.2.1, if_pos (nI_le (by omega) (by omega))]
    exact sm_mp_73 hm hF ho hM rfl (by omega) hf0 nD 0 F (Nat.zero_add _) (by omega)
  | succ d ih =>
    intro j f hj hf
    obtain ⟨f, rfl⟩ : ∃ y, f = y + 1 := ⟨f - 1, by omega⟩
    obtain ⟨z1, z2, u1, u2, _⟩ := hMs.1.2.2 j (by omega)
    have es : sumT (fun p => 25 + wdN (zf p) + wdN (uf p)) (j + 1) = sumT (fun p => 25 + wdN (zf p) + wdN (uf p)) j + (25 + wdN (zf j) + wdN (uf j)) := rfl
    have go := ih (j + 1) f (by omega) (by omega)
    rw [es, show 25 + wdN (zf j) + wdN (uf j) = 22 + wdN (zf j) + wdN (uf j) + 1 + 1 + 1 by omega] at go
    unfold f_M_map_26
    rw [Mg50 hm, bs, hMs.1.2.1, if_neg (nI_ge (by omega) (by omega)), Mr56 hm, bs, Ma56 hm (by omega), bs, z1, q_wide (by omega), xb_mk, Mr54 hm, bs, Ma54 hm (by omega), bs, u1, q_wide (by omega), xb_mk, nI_add, nI_add, nI_add, nI_add, nI_add, nI_add, nI_add]
    exact go
theorem sm_map (hm : m ≤ h.length) (hF : 65540 < F) (ho : OUo σ0) (hM : gI σ0 13 = 0 → MPs σ0 nS nD zf uf gf ff mf lf df) : Sm m h (OWe σ0) Any (f_M_map F m (mh m h σ0)) := by
  unfold f_M_map f_M_map_13
  refine sm_gI hm rfl (sm_i (fun h13 => ?_) (fun _ => ?_))
  · refine sm_o hm (fun _ => sm_t0 (σ0 := σ0) hm (FR_refl _) (fun σ hi => sm_i (fun _ => ?_) (fun hc => absurd rfl hc)))
    have hN := (hM h13).1.1
    exact sm_mp_26 hm hF ho (hM h13) hi nS 0 F (Nat.zero_add _) (by omega)
  · exact sm_o hm (fun _ => sm_tA (σ0 := σ0) hm (FR_refl _) (fun σ hi => sm_i (fun hc => absurd hc (by decide)) (fun _ => sm_r any (OWe_0 ho hi))))
end MMQ
end
section
/-! the reference packs: its small parts (steps spelled out by sf/pp.py) -/
section MPK
variable {F m : Nat} {h : px_H} {σ0 σ : px_S} {c : Nat}
theorem sm_high {p : Nat} {v : Int32} (hm : m ≤ h.length) (hp : p + 4 ≤ 65536) : ∀ (d j f : Nat) (σ : px_S), j + d = 4 → d < f → OWi σ0 σ c → Sm m h (fun σ' => OWi σ0 σ' c) Any (f_M_highFirst_2 F f m (nI p) v (nI j) (mh m h σ)) := by
  intro d
  induction d with
  | zero =>
    intro j f σ hj hf hI
    obtain ⟨f, rfl⟩ : ∃ y, f = y + 1 := ⟨f - 1, by omega⟩
    unfold f_M_highFirst_2 f_M_highFirst_31
    rw [if_pos (nI_le (by omega) (by omega))]
    exact sm_r any hI
  | succ d ih =>
    intro j f σ hj hf hI
    obtain ⟨f, rfl⟩ : ∃ y, f = y + 1 := ⟨f - 1, by omega⟩
    unfold f_M_highFirst_2
    rw [if_neg (nI_ge (by omega) (by omega)), Mr3 hm, bs, nI_add, nI_add]
    exact sm_w3 hm hI (by omega) (fun σ hi => ih _ _ _ (by omega) (by omega) hi)
theorem sm_ahead_2 {p v : Nat} (hm : m ≤ h.length) (hF : 65540 < F) (hv : v ≤ 99999) (hp : p + 60 ≤ 65536) : ∀ (d j f : Nat) (σ : px_S), j + d = 58 → d < f → OWi σ0 σ c → Sm m h (fun σ' => OWi σ0 σ' c) Any (f_M_ahead_2 F f m (nI p) (nI v) (nI j) (mh m h σ)) := by
  have hw := wdN_b v
  intro d
  induction d with
  | zero =>
    intro j f σ hj hf hI
    obtain ⟨f, rfl⟩ : ∃ y, f = y + 1 := ⟨f - 1, by omega⟩
    unfold f_M_ahead_2 f_M_ahead_24 f_M_digits
    rw [if_pos (nI_le (by omega) (by omega)), nI_add, nI_add, nI_add]
    refine sm_o hm (fun _ => sm_x (sm_dg_2 (F := F) (p := p + 48) (v := v) hm hF hv (by omega) hI 4 0 F rfl (by omega) (Or.inr rfl)) (fun _ σ _ hi => ?_))
    rw [Mr3 hm, bs]
    refine sm_w3 hm hi (by omega) (fun σ hi => ?_)
    rw [Mr3 hm, bs]
    exact sm_w3 hm hi (by omega) (fun σ hi => sm_r any hi)
  | succ d ih =>
    intro j f σ hj hf hI
    obtain ⟨f, rfl⟩ : ∃ y, f = y + 1 := ⟨f - 1, by omega⟩
    unfold f_M_ahead_2
    rw [if_neg (nI_ge (by omega) (by omega)), Mr3 hm, bs, nI_add, nI_add]
    exact sm_w3 hm hI (by omega) (fun σ hi => ih _ _ _ (by omega) (by omega) hi)
end MPK
end
section
/-! the reference packs: the objects that are there (steps spelled out by sf/pp.py) -/
/-- c objects were found -/
def FOi (fs : px_FS) (σ0 σ : px_S) (c : Nat) : Prop := FR [0, 127] [] [128, 129] [] σ0 σ ∧ gI σ 127 = nI c ∧ ∀ i, i < c → ∃ q o n b, obAt fs q = some (o, n, b, false) ∧ gA σ 128 i = nI o ∧ gA σ 129 i = nI n
section MFO
variable {F m : Nat} {h : px_H} {σ0 σ : px_S} {fs : px_FS} {c : Nat}
theorem FOi_R (hr : RF σ0 fs) (hI : FOi fs σ0 σ c) : RF σ fs := RF_FR hr hI.1 (by decide) (by decide)
theorem FOi_1 {o n q : Nat} {b : Nat → Nat} (hI : FOi fs σ0 σ c) (hob : obAt fs q = some (o, n, b, false)) : FOi fs σ0 (sI (sA (sA σ 128 (upd (gA σ 128) c (nI o))) 129 (upd (gA σ 129) c (nI n))) 127 (nI (c + 1))) (c + 1) := by
  obtain ⟨hf, ec, ht⟩ := hI
  refine ⟨FR_trans (FR_trans (FR_trans hf (FR_mono (FR_A _ _ _) (by decide) (by decide) (by decide) (by decide))) (FR_mono (FR_A _ _ _) (by decide) (by decide) (by decide) (by decide))) (FR_mono (FR_I _ _ _) (by decide) (by decide) (by decide) (by decide)), by rw [gI_sI, if_pos rfl], fun i hi => ?_⟩
  simp only [gA_sI, gA_sA]
  by_cases e : i = c
  · subst e
    exact ⟨q, o, n, b, hob, by simp [upd], by simp [upd]⟩
  · obtain ⟨q', o', n', b', e1, e2, e3⟩ := ht i (by omega)
    exact ⟨q', o', n', b', e1, by simp [upd, e, e2], by simp [upd, e, e3]⟩
theorem sm_fo_17 {k7 : Nat → Int32 → px_H → Option (Unit × px_H)} {i l : Nat} (hm : m ≤ h.length) (hr : RF σ0 fs) (hi : i < fs.length) (hl : l ≤ 8) (el : gA σ0 8 i = nI l) (hK : ∀ σ c, c ≤ 8 * (i + 1) → FOi fs σ0 σ c → Sm m h (fun σ' => ∃ c, c ≤ 64 ∧ FOi fs σ0 σ' c) Any (k7 m (nI (i + 1)) (mh m h σ))) : ∀ (d k f c : Nat) (σ : px_S), k + d = l → d < f → c ≤ 8 * i + k → FOi fs σ0 σ c → Sm m h (fun σ' => ∃ c, c ≤ 64 ∧ FOi fs σ0 σ' c) Any (f_M_findObjects_17 F k7 f m (nI i) (nI k) (mh m h σ)) := by
  have h8 := hr.2.1
  have i8 : i < 8 := by omega
  intro d
  induction d with
  | zero =>
    intro k f c σ hk hf hc hI
    obtain ⟨f, rfl⟩ : ∃ y, f = y + 1 := ⟨f - 1, by omega⟩
    have g8 : gA σ 8 = gA σ0 8 := hI.1.2.2.1 8 (by decide)
    unfold f_M_findObjects_17 f_M_findObjects_100
    rw [Mr8 hm, bs, Ma8 hm i8, bs, g8, el, if_pos (nI_le (by omega) (by omega)), nI_add]
    exact hK σ c (by omega) hI
  | succ d ih =>
    intro k f c σ hk hf hc hI
    obtain ⟨f, rfl⟩ : ∃ y, f = y + 1 := ⟨f - 1, by omega⟩
    have g8 : gA σ 8 = gA σ0 8 := hI.1.2.2.1 8 (by decide)
    have hq : 8 * i + k < 64 := by omega
    have hR := FOi_R hr hI
    obtain ⟨o, n, b, sk, hob⟩ := mem_ob (k := k) hR hi ⟨l, by rw [g8]; exact el, hl, by omega⟩
    obtain ⟨q1, q2, q3, q4, q5, q6, q7⟩ := RF_ob hR hob
    unfold f_M_findObjects_17 f_M_findObjects_94
    rw [Mr8 hm, bs, Ma8 hm i8, bs, g8, el, if_neg (nI_ge (by omega) (by omega)), Mr12 hm, bs, ix8, Ma12 hm hq, bs, q4, nI_add]
    cases sk with
    | true =>
      rw [if_neg (show ¬ bI true = 0 by decide)]
      exact ih _ _ _ _ (by omega) (by omega) (by omega) hI
    | false =>
      rw [if_pos (show bI false = 0 from rfl), Mr128 hm, bs, Mg127 hm, bs, hI.2.1, Mr9 hm, bs, Ma9 hm hq, bs, q2, Ms128 hm (by omega), bs, Mr129 hm, bs, Mg127 hm, bs, gI_sA, hI.2.1, Mr10 hm, bs, Ma10 hm hq, bs, gA_sA, if_neg (show ¬ 10 = 128 by decide), q3, Ms129 hm (by omega), bs, Mg127 hm, bs, gI_sA, gI_sA, hI.2.1, nI_add, Mp127 hm, bs]
      exact ih _ _ (c + 1) _ (by omega) (by omega) (by omega) (FOi_1 hI hob)
theorem sm_fo_7 (hm : m ≤ h.length) (hF : 65540 < F) (hr : RF σ0 fs) : ∀ (d i f c : Nat) (σ : px_S), i + d = fs.length → d < f → c ≤ 8 * i → FOi fs σ0 σ c → Sm m h (fun σ' => ∃ c, c ≤ 64 ∧ FOi fs σ0 σ' c) Any (f_M_findObjects_7 F f m (nI i) (mh m h σ)) := by
  have h8 := hr.2.1
  intro d
  induction d with
  | zero =>
    intro i f c σ hi hf hc hI
    obtain ⟨f, rfl⟩ : ∃ y, f = y + 1 := ⟨f - 1, by omega⟩
    unfold f_M_findObjects_7 f_M_findObjects_106
    rw [Mg5 hm, bs, (FOi_R hr hI).1, if_pos (nI_le (by omega) (by omega))]
    exact sm_r any ⟨c, by omega, hI⟩
  | succ d ih =>
    intro i f c σ hi hf hc hI
    obtain ⟨f, rfl⟩ : ∃ y, f = y + 1 := ⟨f - 1, by omega⟩
    obtain ⟨l, hl, el⟩ := RF_8 hr (show i < fs.length by omega)
    unfold f_M_findObjects_7
    rw [Mg5 hm, bs, (FOi_R hr hI).1, if_neg (nI_ge (by omega) (by omega))]
    exact sm_fo_17 hm hr (by omega) hl el (fun σ c hc hI => ih _ _ _ _ (by omega) (by omega) hc hI) l 0 F c σ (Nat.zero_add _) (by omega) (by omega) hI
theorem sm_fo (hm : m ≤ h.length) (hF : 65540 < F) (hr : RF σ0 fs) : Sm m h (fun σ' => ∃ c, c ≤ 64 ∧ FOi fs σ0 σ' c) Any (f_M_findObjects F m (mh m h σ0)) := by
  unfold f_M_findObjects
  rw [Mp127 hm, bs]
  exact sm_fo_7 hm hF hr fs.length 0 F 0 _ (Nat.zero_add _) (by have := hr.2.1; omega) (by omega) ⟨FR_mono (FR_I _ _ _) (by decide) (by decide) (by decide) (by decide), by rw [gI_sI, if_pos rfl], fun i hi => absurd hi (Nat.not_lt_zero i)⟩
end MFO
end
section
/-! the reference packs: it writes (steps spelled out by sf/pp.py) -/
/-- what pack reads of an object -/
def PKo (F m : Nat) (h : px_H) (B : Nat → Int32) (o n M : Nat) (D : Nat → Bool) (A E : Nat → Nat) : Prop := M ≤ 64 ∧ o + n ≤ 65536 ∧ (∀ σ, gA σ 6 = B → f_M_symbolMany F m (nI o) (mh m h σ) = some (nI M, mh m h σ)) ∧ ∀ k, 1 ≤ k → k < M → (∀ σ, gA σ 6 = B → f_M_isDefining F m (nI o) (nI k) (mh m h σ) = some (bI (D k), mh m h σ)) ∧ (D k = true → A k ≤ E k ∧ E k < 65536 ∧ ∀ σ, gA σ 6 = B → f_M_nameAt F m (nI o) (nI k) (mh m h σ) = some (nI (A k), mh m h σ) ∧ f_M_nameEnd F m (nI o) (nI k) (mh m h σ) = some (nI (E k), mh m h σ))
def pkN (D : Nat → Bool) (k : Nat) : Nat := if k = 0 then 0 else if D k = true then 1 else 0
def pkL (D : Nat → Bool) (A E : Nat → Nat) (k : Nat) : Nat := if k = 0 then 0 else if D k = true then E k - A k + 1 else 0
def pkM (M : Nat) : Nat := if M = 0 then 1 else M
def pkZ (n : Nat) : Nat := 60 + n + n % 2
theorem pkM_1 (M : Nat) : 1 ≤ pkM M ∧ M ≤ pkM M ∧ ∀ k, 1 ≤ k → k < pkM M → k < M := by
  unfold pkM
  by_cases c : M = 0
  · rw [if_pos c]; exact ⟨Nat.le_refl _, by omega, fun k h1 h2 => by omega⟩
  · rw [if_neg c]; exact ⟨by omega, Nat.le_refl _, fun k h1 h2 => h2⟩
theorem pkN_f {D : Nat → Bool} {k : Nat} (h : D k = false) : pkN D k = 0 := by
  unfold pkN
  by_cases c : k = 0
  · rw [if_pos c]
  · rw [if_neg c, if_neg (by rw [h]; decide)]
theorem pkN_t {D : Nat → Bool} {k : Nat} (h1 : 1 ≤ k) (h : D k = true) : pkN D k = 1 := by
  unfold pkN
  rw [if_neg (by omega), if_pos h]
theorem pkL_f {D : Nat → Bool} {A E : Nat → Nat} {k : Nat} (h : D k = false) : pkL D A E k = 0 := by
  unfold pkL
  by_cases c : k = 0
  · rw [if_pos c]
  · rw [if_neg c, if_neg (by rw [h]; decide)]
theorem pkL_t {D : Nat → Bool} {A E : Nat → Nat} {k : Nat} (h1 : 1 ≤ k) (h : D k = true) : pkL D A E k = E k - A k + 1 := by
  unfold pkL
  rw [if_neg (by omega), if_pos h]
theorem nI_m2 {n : Nat} (h : n < 2 ^ 30) : nI n - nI n / nI 2 * nI 2 = nI (n % 2) := by
  rw [nI_divG h (by decide), show nI (n / 2) * nI 2 = nI (n / 2 * 2) from (Int32.ofNat_mul _ _).symm, pk_sub (by omega)]
  congr 1
  omega
section MPW
variable {F m : Nat} {h : px_H} {σ0 σ : px_S} {c o n M T i : Nat} {D : Nat → Bool} {A E : Nat → Nat} {I : px_S → Prop}
theorem sm_pk339 {k272 : Nat → Int32 → Int32 → Int32 → Int32 → Int32 → px_H → Option (Int32 × px_H)} {k293 : Nat → Int32 → Int32 → Int32 → Int32 → Int32 → Int32 → Int32 → px_H → Option (Int32 × px_H)} {k p5 p7 q6 : Nat} (hm : m ≤ h.length) (hP : PKo F m h (gA σ0 6) o n M D A E) (h1 : 1 ≤ k) (hk : k < M) (hD : D k = true) (hq : q6 ≤ 65536) (hK : ∀ σ, OWi σ0 σ c → Sm m h I Any (k293 m (nI T) (nI p5) (nI q6) (nI p7) (nI i) (nI o) (nI (k + 1)) (mh m h σ))) : ∀ (d j f p6 : Nat) (σ : px_S), j + d = E k → d < f → p6 + d + 1 = q6 → OWi σ0 σ c → Sm m h I Any (f_M_pack_339 F k272 k293 f m (nI T) (nI p5) (nI p6) (nI p7) (nI i) (nI o) (nI k) (nI j) (mh m h σ)) := by
  obtain ⟨e1, e2, e3⟩ := (hP.2.2.2 k h1 hk).2 hD
  intro d
  induction d with
  | zero =>
    intro j f p6 σ hj hf hp hI
    obtain ⟨f, rfl⟩ : ∃ y, f = y + 1 := ⟨f - 1, by omega⟩
    unfold f_M_pack_339 f_M_pack_375 f_M_pack_378
    rw [e_o hm, bs, (e3 σ (OWi_6 hI)).2, xb_mk, if_pos (nI_le (by omega) (by omega)), nI_add, nI_add]
    obtain rfl : p6 + 1 = q6 := by omega
    exact hK σ hI
  | succ d ih =>
    intro j f p6 σ hj hf hp hI
    obtain ⟨f, rfl⟩ : ∃ y, f = y + 1 := ⟨f - 1, by omega⟩
    unfold f_M_pack_339
    rw [e_o hm, bs, (e3 σ (OWi_6 hI)).2, xb_mk, if_neg (nI_ge (by omega) (by omega)), Mr3 hm, bs, Mr6 hm, bs, Ma6 hm (by omega), bs, nI_add, nI_add]
    exact sm_w3 hm hI (by omega) (fun σ hi => ih (j + 1) f (p6 + 1) σ (by omega) (by omega) (by omega) hi)
theorem sm_pk293 {k272 : Nat → Int32 → Int32 → Int32 → Int32 → Int32 → px_H → Option (Int32 × px_H)} {P5 P6 p7 : Nat} (hm : m ≤ h.length) (hF : 65540 < F) (hP : PKo F m h (gA σ0 6) o n M D A E) (hq5 : P5 + 4 * sumT (pkN D) (pkM M) ≤ 65536) (hq6 : P6 + sumT (pkL D A E) (pkM M) ≤ 65536) (hK : ∀ σ, OWi σ0 σ c → Sm m h I Any (f_M_pack_384 F k272 m (nI T) (nI (P5 + 4 * sumT (pkN D) (pkM M))) (nI (P6 + sumT (pkL D A E) (pkM M))) (nI p7) (nI i) (nI o) (mh m h σ))) : ∀ (d k f : Nat) (σ : px_S), k + d = pkM M → 1 ≤ k → d < f → OWi σ0 σ c → Sm m h I Any (f_M_pack_293 F k272 f m (nI T) (nI (P5 + 4 * sumT (pkN D) k)) (nI (P6 + sumT (pkL D A E) k)) (nI p7) (nI i) (nI o) (nI k) (mh m h σ)) := by
  obtain ⟨m1, m2, m3⟩ := pkM_1 M
  have hM := hP.1
  have hMx : pkM M ≤ 64 := by unfold pkM; split <;> omega
  intro d
  induction d with
  | zero =>
    intro k f σ hk h1 hf hI
    obtain ⟨f, rfl⟩ : ∃ y, f = y + 1 := ⟨f - 1, by omega⟩
    obtain rfl : k = pkM M := by omega
    unfold f_M_pack_293
    rw [e_o hm, bs, hP.2.2.1 σ (OWi_6 hI), xb_mk, if_pos (nI_le (by omega) (by omega))]
    exact hK σ hI
  | succ d ih =>
    intro k f σ hk h1 hf hI
    obtain ⟨f, rfl⟩ : ∃ y, f = y + 1 := ⟨f - 1, by omega⟩
    have hkM := m3 k h1 (by omega)
    obtain ⟨r1, r2⟩ := hP.2.2.2 k h1 hkM
    have s5 := sumT_le (f := pkN D) (show k + 1 ≤ pkM M by omega)
    have s6 := sumT_le (f := pkL D A E) (show k + 1 ≤ pkM M by omega)
    have e5 : sumT (pkN D) (k + 1) = sumT (pkN D) k + pkN D k := rfl
    have e6 : sumT (pkL D A E) (k + 1) = sumT (pkL D A E) k + pkL D A E k := rfl
    have go := fun σ hi => ih (k + 1) f σ (by omega) (by omega) (by omega) hi
    rw [e5, e6] at go
    rw [e5] at s5
    rw [e6] at s6
    unfold f_M_pack_293
    rw [e_o hm, bs, hP.2.2.1 σ (OWi_6 hI), xb_mk, if_neg (nI_ge (by omega) (by omega)), e_o hm, bs, r1 σ (OWi_6 hI), xb_mk]
    cases hD : D k with
    | false =>
      rw [if_pos (show bI false = 0 from rfl)]
      unfold f_M_pack_378
      rw [nI_add]
      rw [pkN_f hD, pkL_f hD] at go
      exact go σ hI
    | true =>
      rw [if_neg (show ¬ bI true = 0 by decide)]
      obtain ⟨a1, a2, a3⟩ := r2 hD
      rw [pkN_t h1 hD, pkL_t h1 hD] at go
      rw [pkN_t h1 hD] at s5
      rw [pkL_t h1 hD] at s6
      generalize sumT (pkN D) k = S5 at *
      generalize sumT (pkL D A E) k = S6 at *
      generalize sumT (pkN D) (pkM M) = U5 at *
      generalize sumT (pkL D A E) (pkM M) = U6 at *
      unfold f_M_highFirst
      refine sm_o hm (fun _ => sm_x (sm_high (F := F) (p := P5 + 4 * S5) hm (by omega) 4 0 F σ rfl (by omega) hI) (fun _ σ _ hi => ?_))
      rw [e_o hm, bs, (a3 σ (OWi_6 hi)).1, xb_mk, nI_add]
      refine sm_pk339 (k := k) (q6 := P6 + (S6 + (E k - A k + 1))) hm hP h1 hkM hD (by omega) ?_ (E k - A k) (A k) F (P6 + S6) σ (by omega) (by omega) (by omega) hi
      rw [show P5 + 4 * S5 + 4 = P5 + 4 * (S5 + 1) by omega]
      exact go
theorem sm_pk435 {k272 : Nat → Int32 → Int32 → Int32 → Int32 → Int32 → px_H → Option (Int32 × px_H)} {p5 p6 p7 : Nat} (hm : m ≤ h.length) (hF : 65540 < F) (hi7 : i < 64) (e129 : gA σ0 129 i = nI n) (hon : o + n ≤ 65536) (hp : p7 + pkZ n ≤ 65536) (hK : ∀ σ, OWi σ0 σ c → Sm m h I Any (k272 m (nI T) (nI p5) (nI p6) (nI (p7 + pkZ n)) (nI (i + 1)) (mh m h σ))) : ∀ (d j f : Nat) (σ : px_S), j + d = n → d < f → OWi σ0 σ c → Sm m h I Any (f_M_pack_435 F k272 f m (nI T) (nI p5) (nI p6) (nI p7) (nI i) (nI o) (nI j) (mh m h σ)) := by
  have hz : pkZ n = 60 + n + n % 2 := rfl
  rw [hz] at hp hK
  intro d
  induction d with
  | zero =>
    intro j f σ hj hf hI
    obtain ⟨f, rfl⟩ : ∃ y, f = y + 1 := ⟨f - 1, by omega⟩
    have g : gA σ 129 i = nI n := by rw [hI.1.2.2.1 129 (by decide)]; exact e129
    unfold f_M_pack_435 f_M_pack_476 f_M_pack_525
    rw [Mr129 hm, bs, Ma129 hm (by omega), bs, g, if_pos (nI_le (by omega) (by omega)), bs, Ma129 hm (by omega), bs, bs, Ma129 hm (by omega), bs, bs, Ma129 hm (by omega), bs, g, nI_m2 (by omega), nI_add, nI_add, nI_add, nI_add]
    refine sm_i (fun _ => ?_) (fun _ => hK σ hI)
    rw [Mr3 hm, bs, pk_sub (by omega)]
    exact sm_w3 hm hI (by omega) hK
  | succ d ih =>
    intro j f σ hj hf hI
    obtain ⟨f, rfl⟩ : ∃ y, f = y + 1 := ⟨f - 1, by omega⟩
    have g : gA σ 129 i = nI n := by rw [hI.1.2.2.1 129 (by decide)]; exact e129
    unfold f_M_pack_435
    rw [Mr129 hm, bs, Ma129 hm (by omega), bs, g, if_neg (nI_ge (by omega) (by omega)), Mr3 hm, bs, Mr6 hm, bs, nI_add, Ma6 hm (by omega), bs, nI_add, nI_add, nI_add]
    exact sm_w3 hm hI (by omega) (fun σ hi => ih _ _ _ (by omega) (by omega) hi)
theorem sm_pk384 {k272 : Nat → Int32 → Int32 → Int32 → Int32 → Int32 → px_H → Option (Int32 × px_H)} {p5 p6 p7 : Nat} (hm : m ≤ h.length) (hF : 65540 < F) (hi7 : i < 64) (e129 : gA σ0 129 i = nI n) (hon : o + n ≤ 65536) (hp : p7 + pkZ n ≤ 65536) (hK : ∀ σ, OWi σ0 σ c → Sm m h I Any (k272 m (nI T) (nI p5) (nI p6) (nI (p7 + pkZ n)) (nI (i + 1)) (mh m h σ))) (hI : OWi σ0 σ c) : Sm m h I Any (f_M_pack_384 F k272 m (nI T) (nI p5) (nI p6) (nI p7) (nI i) (nI o) (mh m h σ)) := by
  have hz : pkZ n = 60 + n + n % 2 := rfl
  have g : gA σ 129 i = nI n := by rw [hI.1.2.2.1 129 (by decide)]; exact e129
  unfold f_M_pack_384 f_M_ahead
  rw [Mr129 hm, bs, Ma129 hm (by omega), bs, g]
  refine sm_o hm (fun _ => sm_x (sm_ahead_2 (F := F) (p := p7) (v := n) hm hF (by omega) (by omega) 58 0 F σ rfl (by omega) hI) (fun _ σ _ hi => ?_))
  rw [Mr3 hm, bs]
  refine sm_w3 hm hi (by omega) (fun σ hi => ?_)
  rw [Mr3 hm, bs, nI_add]
  refine sm_w3 hm hi (by omega) (fun σ hi => ?_)
  rw [Mr3 hm, bs, nI_add]
  refine sm_w3 hm hi (by omega) (fun σ hi => ?_)
  exact sm_pk435 hm hF hi7 e129 hon hp hK n 0 F σ (Nat.zero_add _) (by omega) hi
end MPW
end
section
/-! the reference packs (steps spelled out by sf/pp.py) -/
def PKs (F m : Nat) (h : px_H) (σ : px_S) (c : Nat) (of nf Mf : Nat → Nat) (Df : Nat → Nat → Bool) (Af Ef : Nat → Nat → Nat) : Prop := c ≤ 7 ∧ gI σ 127 = nI c ∧ ∀ i, i < c → gA σ 128 i = nI (of i) ∧ gA σ 129 i = nI (nf i) ∧ PKo F m h (gA σ 6) (of i) (nf i) (Mf i) (Df i) (Af i) (Ef i)
def pkNN (Mf : Nat → Nat) (Df : Nat → Nat → Bool) (j : Nat) : Nat := sumT (pkN (Df j)) (pkM (Mf j))
def pkLL (Mf : Nat → Nat) (Df : Nat → Nat → Bool) (Af Ef : Nat → Nat → Nat) (j : Nat) : Nat := sumT (pkL (Df j) (Af j) (Ef j)) (pkM (Mf j))
def pkZZ (nf : Nat → Nat) (j : Nat) : Nat := pkZ (nf j)
/-- what pack changes -/
def PKe (σ0 σ : px_S) : Prop := FR [0, 4, 127] [] [3, 128, 129] [] σ0 σ ∧ OUo σ
section MPX
variable {F m : Nat} {h : px_H} {σ0 σ : px_S} {cc c T : Nat} {of nf Mf : Nat → Nat} {Df : Nat → Nat → Bool} {Af Ef : Nat → Nat → Nat}
theorem sm_pk272 {P5 P6 P7 : Nat} (hm : m ≤ h.length) (hF : 65540 < F) (hP : PKs F m h σ0 c of nf Mf Df Af Ef) (hcc : cc ≤ 65536) (h5 : P5 + 4 * sumT (pkNN Mf Df) c ≤ 65536) (h6 : P6 + sumT (pkLL Mf Df Af Ef) c ≤ 65536) (h7 : P7 + sumT (pkZZ nf) c ≤ 65536) : ∀ (d i f : Nat) (σ : px_S), i + d = c → d < f → OWi σ0 σ cc → Sm m h (OWe σ0) Any (f_M_pack_272 F f m (nI T) (nI (P5 + 4 * sumT (pkNN Mf Df) i)) (nI (P6 + sumT (pkLL Mf Df Af Ef) i)) (nI (P7 + sumT (pkZZ nf) i)) (nI i) (mh m h σ)) := by
  obtain ⟨hc7, e127, hO⟩ := hP
  intro d
  induction d with
  | zero =>
    intro i f σ hi hf hI
    obtain ⟨f, rfl⟩ : ∃ y, f = y + 1 := ⟨f - 1, by omega⟩
    unfold f_M_pack_272 f_M_pack_531
    rw [Mg127 hm, bs, hI.1.1 127 (by decide), e127, if_pos (nI_le (by omega) (by omega))]
    exact sm_r any ⟨cc, hcc, hI⟩
  | succ d ih =>
    intro i f σ hi hf hI
    obtain ⟨f, rfl⟩ : ∃ y, f = y + 1 := ⟨f - 1, by omega⟩
    obtain ⟨e128, e129, hPo⟩ := hO i (by omega)
    have s5 := sumT_le (f := pkNN Mf Df) (show i + 1 ≤ c by omega)
    have s6 := sumT_le (f := pkLL Mf Df Af Ef) (show i + 1 ≤ c by omega)
    have s7 := sumT_le (f := pkZZ nf) (show i + 1 ≤ c by omega)
    have e5 : sumT (pkNN Mf Df) (i + 1) = sumT (pkNN Mf Df) i + sumT (pkN (Df i)) (pkM (Mf i)) := rfl
    have e6 : sumT (pkLL Mf Df Af Ef) (i + 1) = sumT (pkLL Mf Df Af Ef) i + sumT (pkL (Df i) (Af i) (Ef i)) (pkM (Mf i)) := rfl
    have e7 : sumT (pkZZ nf) (i + 1) = sumT (pkZZ nf) i + pkZ (nf i) := rfl
    have go := fun σ hi => ih (i + 1) f σ (by omega) (by omega) hi
    rw [e5, e6, e7] at go
    rw [e5] at s5
    rw [e6] at s6
    rw [e7] at s7
    unfold f_M_pack_272
    rw [Mg127 hm, bs, hI.1.1 127 (by decide), e127, if_neg (nI_ge (by omega) (by omega)), Mr128 hm, bs, Ma128 hm (by omega), bs, hI.1.2.2.1 128 (by decide), e128]
    generalize sumT (pkNN Mf Df) i = S5 at *
    generalize sumT (pkLL Mf Df Af Ef) i = S6 at *
    generalize sumT (pkZZ nf) i = S7 at *
    generalize sumT (pkNN Mf Df) c = U5 at *
    generalize sumT (pkLL Mf Df Af Ef) c = U6 at *
    generalize sumT (pkZZ nf) c = U7 at *
    have hM := hPo.1
    obtain ⟨m1, m2, m3⟩ := pkM_1 (Mf i)
    have hMx : pkM (Mf i) ≤ 64 := by unfold pkM; split <;> omega
    have z0 : sumT (pkN (Df i)) 1 = 0 := rfl
    have z1 : sumT (pkL (Df i) (Af i) (Ef i)) 1 = 0 := rfl
    have w := sm_pk293 (σ0 := σ0) (c := cc) (T := T) (i := i) (I := OWe σ0) (k272 := f_M_pack_272 F f) (P5 := P5 + 4 * S5) (P6 := P6 + S6) (p7 := P7 + S7) hm hF hPo (by omega) (by omega) (fun σ hi => sm_pk384 hm hF (by omega) e129 hPo.2.1 (by omega) (fun σ hi => by
      have g := go σ hi
      rw [show P5 + 4 * (S5 + sumT (pkN (Df i)) (pkM (Mf i))) = P5 + 4 * S5 + 4 * sumT (pkN (Df i)) (pkM (Mf i)) by omega, ← Nat.add_assoc P6, ← Nat.add_assoc P7] at g
      exact g) hi) (pkM (Mf i) - 1) 1 F σ (by omega) (by omega) (by omega) hI
    rw [z0, z1] at w
    exact w
theorem sm_pk269 {N L Z a4 : Nat} (hm : m ≤ h.length) (hF : 65540 < F) (hP : PKs F m h σ0 c of nf Mf Df Af Ef) (hcc : cc ≤ 65536) (eN : N = sumT (pkNN Mf Df) c) (eL : L = sumT (pkLL Mf Df Af Ef) c) (eZ : Z = sumT (pkZZ nf) c) (e4 : a4 = 4 + 4 * N + L) (hT : 68 + Z + (a4 + a4 % 2) ≤ 8192) (hI : OWi σ0 σ cc) : Sm m h (OWe σ0) Any (f_M_pack_269 F m (nI T) (nI 72) (nI (72 + 4 * N)) (nI (68 + a4 + a4 % 2)) (mh m h σ)) := by
  have hc := hP.1
  unfold f_M_pack_269
  exact sm_pk272 (P5 := 72) (P6 := 72 + 4 * N) (P7 := 68 + a4 + a4 % 2) hm hF hP hcc (by rw [← eN]; omega) (by rw [← eL]; omega) (by rw [← eZ]; omega) c 0 F σ (Nat.zero_add _) (by omega) hI
theorem sm_pk187 {N L Z a4 : Nat} (hm : m ≤ h.length) (hF : 65540 < F) (hP : PKs F m h σ0 c of nf Mf Df Af Ef) (eN : N = sumT (pkNN Mf Df) c) (eL : L = sumT (pkLL Mf Df Af Ef) c) (eZ : Z = sumT (pkZZ nf) c) (e4 : a4 = 4 + 4 * N + L) (eT : T = 68 + Z + (a4 + a4 % 2)) (hT : T ≤ 8192) (hI : OWi σ0 σ cc) : Sm m h (OWe σ0) Any (f_M_pack_187 F m (nI N) (nI T) (nI a4) (mh m h σ)) := by
  have fin : ∀ σ, OWi σ0 σ T → Sm m h (OWe σ0) Any (f_M_pack_269 F m (nI T) (nI 72) (nI (72 + 4 * N)) (nI (68 + a4 + a4 % 2)) (mh m h σ)) := fun σ hi => sm_pk269 hm hF hP (by omega) eN eL eZ e4 (by omega) hi
  unfold f_M_pack_187
  refine sm_p4 hm hI (fun σ hi => ?_)
  obtain ⟨σ', e, w1, w2⟩ := q_put (F := F) (σ := σ) (at0 := 0) (n := 8) (v := (738142165265366049 : Int64)) hm (by omega) (by decide) hi.2.2
  have hi' : OWi σ0 σ' T := ⟨FR_trans hi.1 (FR_mono w1 (by decide) (by decide) (by decide) (by decide)), (w1.1 4 List.not_mem_nil).trans hi.2.1, w2⟩
  refine sm_o hm (fun _ => ?_)
  rw [e, xb_mk]
  unfold f_M_ahead f_M_highFirst
  refine sm_o hm (fun _ => sm_x (sm_ahead_2 (F := F) (p := 8) (v := a4) hm hF (by omega) (by omega) 58 0 F σ' rfl (by omega) hi') (fun _ σ _ hi => ?_))
  rw [Mr3 hm, bs]
  refine sm_w3 hm hi (by omega) (fun σ hi => ?_)
  refine sm_o hm (fun _ => sm_x (sm_high (F := F) (p := 68) hm (by omega) 4 0 F σ rfl (by omega) hi) (fun _ σ _ hi => ?_))
  rw [nI_m2 (by omega), nI_add, nI_add, show nI 4 * nI N = nI (4 * N) from (Int32.ofNat_mul _ _).symm, nI_add]
  refine sm_i (fun _ => ?_) (fun _ => fin σ hi)
  rw [Mr3 hm, bs, pk_sub (by omega)]
  exact sm_w3 hm hi (by omega) fin
theorem sm_pk167 {N L Z a4 : Nat} (hm : m ≤ h.length) (hF : 65540 < F) (hP : PKs F m h σ0 c of nf Mf Df Af Ef) (eN : N = sumT (pkNN Mf Df) c) (eL : L = sumT (pkLL Mf Df Af Ef) c) (eZ : Z = sumT (pkZZ nf) c) (e4 : a4 = 4 + 4 * N + L) (eT : T = 68 + Z + (a4 + a4 % 2)) (hT : T ≤ 8192) : ∀ (d j f : Nat) (σ : px_S), j + d = T → d < f → OWi σ0 σ cc → Sm m h (OWe σ0) Any (f_M_pack_167 F f m (nI N) (nI T) (nI a4) (nI j) (mh m h σ)) := by
  intro d
  induction d with
  | zero =>
    intro j f σ hj hf hI
    obtain ⟨f, rfl⟩ : ∃ y, f = y + 1 := ⟨f - 1, by omega⟩
    unfold f_M_pack_167
    rw [if_pos (nI_le (by omega) (by omega))]
    exact sm_pk187 hm hF hP eN eL eZ e4 eT hT hI
  | succ d ih =>
    intro j f σ hj hf hI
    obtain ⟨f, rfl⟩ : ∃ y, f = y + 1 := ⟨f - 1, by omega⟩
    unfold f_M_pack_167
    rw [if_neg (nI_ge (by omega) (by omega)), Mr3 hm, bs, nI_add]
    exact sm_w3 hm hI (by omega) (fun σ hi => ih _ _ _ (by omega) (by omega) hi)
theorem pk_bnd (hP : PKs F m h σ0 c of nf Mf Df Af Ef) : sumT (pkNN Mf Df) c ≤ 448 ∧ sumT (pkLL Mf Df Af Ef) c ≤ 29360128 ∧ sumT (pkZZ nf) c ≤ 459179 := by
  obtain ⟨hc7, e127, hO⟩ := hP
  have hM : ∀ i, i < c → pkM (Mf i) ≤ 64 := fun i hi => by
    have := (hO i hi).2.2.1
    unfold pkM; split <;> omega
  have b1 := sumT_b' (f := pkNN Mf Df) (k := 64) (n := c) (fun i hi => by
    have := sumT_b' (f := pkN (Df i)) (k := 1) (n := pkM (Mf i)) (fun j hj => by unfold pkN; repeat (first | omega | split))
    have := hM i hi
    unfold pkNN
    omega)
  have b2 := sumT_b' (f := pkLL Mf Df Af Ef) (k := 4194304) (n := c) (fun i hi => by
    have w := sumT_b' (f := pkL (Df i) (Af i) (Ef i)) (k := 65536) (n := pkM (Mf i)) (fun j hj => by
      cases hD : Df i j with
      | false => rw [pkL_f hD]; omega
      | true =>
        by_cases c0 : j = 0
        · unfold pkL; rw [if_pos c0]; omega
        · have := ((hO i hi).2.2.2.2.2 j (by omega) ((pkM_1 (Mf i)).2.2 j (by omega) hj)).2 hD
          rw [pkL_t (by omega) hD]
          omega)
    have := hM i hi
    unfold pkLL
    omega)
  have b3 := sumT_b' (f := pkZZ nf) (k := 65597) (n := c) (fun i hi => by
    have := (hO i hi).2.2.2.1
    unfold pkZZ pkZ
    omega)
  exact ⟨by omega, by omega, by omega⟩
theorem sm_pk136 (hm : m ≤ h.length) (hF : 65540 < F) (hP : PKs F m h σ0 c of nf Mf Df Af Ef) (hcc : cc ≤ 65536) (hI : OWi σ0 σ cc) : Sm m h (OWe σ0) Any (f_M_pack_136 F m (nI (sumT (pkNN Mf Df) c)) (nI (sumT (pkLL Mf Df Af Ef) c)) (nI (68 + sumT (pkZZ nf) c)) (mh m h σ)) := by
  obtain ⟨b1, b2, b3⟩ := pk_bnd hP
  have key : ∀ N L Z, N = sumT (pkNN Mf Df) c → L = sumT (pkLL Mf Df Af Ef) c → Z = sumT (pkZZ nf) c → Sm m h (OWe σ0) Any (f_M_pack_136 F m (nI N) (nI L) (nI (68 + Z)) (mh m h σ)) := fun N L Z eN eL eZ => by
    rw [← eN] at b1
    rw [← eL] at b2
    rw [← eZ] at b3
    unfold f_M_pack_136
    rw [show nI 4 * nI N = nI (4 * N) from (Int32.ofNat_mul _ _).symm, nI_add, nI_add, nI_m2 (by omega), nI_add, nI_add]
    by_cases hT : 68 + Z + (4 + 4 * N + L + (4 + 4 * N + L) % 2) ≤ 8192
    · rw [if_pos (nI_le hT (by decide))]
      exact sm_pk167 hm hF hP eN eL eZ rfl rfl hT _ 0 F σ (Nat.zero_add _) (by omega) hI
    · rw [if_neg (nI_ge (a := 8192) (by omega) (by omega))]
      exact sm_r any ⟨cc, hcc, hI⟩
  exact key _ _ _ rfl rfl rfl
end MPX
end
section
/-! the reference packs: it counts (steps spelled out by sf/pp.py) -/
theorem nI_nz {a : Nat} (h : a < 2 ^ 31) (c : ¬ a = 0) : ¬ nI a = (0 : Int32) := fun q => c ((nI_eq (b := 0) h (by decide)).mp q)
section MPY
variable {F m : Nat} {h : px_H} {σ0 σ : px_S} {cc c T i o n M : Nat} {of nf Mf : Nat → Nat} {Df : Nat → Nat → Bool} {Af Ef : Nat → Nat → Nat} {D : Nat → Bool} {A E : Nat → Nat} {I : px_S → Prop} {fs : px_FS}
theorem sm_pk51 {k30 : Nat → Int32 → Int32 → Int32 → Int32 → px_H → Option (Int32 × px_H)} {N L S : Nat} (hm : m ≤ h.length) (hP : PKo F m h (gA σ 6) o n M D A E) (hi7 : i < 64) (e129 : gA σ 129 i = nI n) (hK : Sm m h I Any (k30 m (nI (N + sumT (pkN D) (pkM M))) (nI (L + sumT (pkL D A E) (pkM M))) (nI (S + pkZ n)) (nI (i + 1)) (mh m h σ))) : ∀ (d k f : Nat), k + d = pkM M → 1 ≤ k → d < f → Sm m h I Any (f_M_pack_51 F k30 f m (nI (N + sumT (pkN D) k)) (nI (L + sumT (pkL D A E) k)) (nI S) (nI i) (nI o) (nI k) (mh m h σ)) := by
  obtain ⟨m1, m2, m3⟩ := pkM_1 M
  have hM := hP.1
  have hon := hP.2.1
  have hMx : pkM M ≤ 64 := by unfold pkM; split <;> omega
  intro d
  induction d with
  | zero =>
    intro k f hk h1 hf
    obtain ⟨f, rfl⟩ : ∃ y, f = y + 1 := ⟨f - 1, by omega⟩
    obtain rfl : k = pkM M := by omega
    have hz : pkZ n = 60 + n + n % 2 := rfl
    rw [hz] at hK
    unfold f_M_pack_51 f_M_pack_107
    rw [e_o hm, bs, hP.2.2.1 σ rfl, xb_mk, if_pos (nI_le (by omega) (by omega)), Mr129 hm, bs, Ma129 hm (by omega), bs, bs, Ma129 hm (by omega), bs, e129, nI_m2 (by omega), nI_add, nI_add, nI_add, nI_add]
    exact hK
  | succ d ih =>
    intro k f hk h1 hf
    obtain ⟨f, rfl⟩ : ∃ y, f = y + 1 := ⟨f - 1, by omega⟩
    have hkM := m3 k h1 (by omega)
    obtain ⟨r1, r2⟩ := hP.2.2.2 k h1 hkM
    have e5 : sumT (pkN D) (k + 1) = sumT (pkN D) k + pkN D k := rfl
    have e6 : sumT (pkL D A E) (k + 1) = sumT (pkL D A E) k + pkL D A E k := rfl
    have go := ih (k + 1) f (by omega) (by omega) (by omega)
    rw [e5, e6] at go
    unfold f_M_pack_51 f_M_pack_101
    rw [e_o hm, bs, hP.2.2.1 σ rfl, xb_mk, if_neg (nI_ge (by omega) (by omega)), e_o hm, bs, r1 σ rfl, xb_mk]
    cases hD : D k with
    | false =>
      rw [if_pos (show bI false = 0 from rfl), nI_add]
      rw [pkN_f hD, pkL_f hD] at go
      exact go
    | true =>
      rw [if_neg (show ¬ bI true = 0 by decide)]
      obtain ⟨a1, a2, a3⟩ := r2 hD
      rw [pkN_t h1 hD, pkL_t h1 hD] at go
      rw [e_o hm, bs, (a3 σ rfl).2, xb_mk, e_o hm, bs, (a3 σ rfl).1, xb_mk, pk_sub (by omega), nI_add, nI_add, nI_add, nI_add, Nat.add_assoc, Nat.add_assoc]
      exact go
theorem sm_pk30 (hm : m ≤ h.length) (hF : 65540 < F) (hP : PKs F m h σ c of nf Mf Df Af Ef) (ho : OUo σ) : ∀ (d i f : Nat), i + d = c → d < f → Sm m h (OWe σ) Any (f_M_pack_30 F f m (nI (sumT (pkNN Mf Df) i)) (nI (sumT (pkLL Mf Df Af Ef) i)) (nI (68 + sumT (pkZZ nf) i)) (nI i) (mh m h σ)) := by
  have hP' := hP
  obtain ⟨hc7, e127, hO⟩ := hP
  intro d
  induction d with
  | zero =>
    intro i f hi hf
    obtain ⟨f, rfl⟩ : ∃ y, f = y + 1 := ⟨f - 1, by omega⟩
    obtain rfl : i = c := by omega
    obtain ⟨cc, hcc, hI⟩ := OWe_0 ho (FR_refl σ)
    unfold f_M_pack_30
    rw [Mg127 hm, bs, e127, if_pos (nI_le (by omega) (by omega))]
    exact sm_pk136 hm hF hP' hcc hI
  | succ d ih =>
    intro i f hi hf
    obtain ⟨f, rfl⟩ : ∃ y, f = y + 1 := ⟨f - 1, by omega⟩
    obtain ⟨e128, e129, hPo⟩ := hO i (by omega)
    have e5 : sumT (pkNN Mf Df) (i + 1) = sumT (pkNN Mf Df) i + sumT (pkN (Df i)) (pkM (Mf i)) := rfl
    have e6 : sumT (pkLL Mf Df Af Ef) (i + 1) = sumT (pkLL Mf Df Af Ef) i + sumT (pkL (Df i) (Af i) (Ef i)) (pkM (Mf i)) := rfl
    have e7 : sumT (pkZZ nf) (i + 1) = sumT (pkZZ nf) i + pkZ (nf i) := rfl
    have go := ih (i + 1) f (by omega) (by omega)
    rw [e5, e6, e7, ← Nat.add_assoc] at go
    unfold f_M_pack_30
    rw [Mg127 hm, bs, e127, if_neg (nI_ge (by omega) (by omega)), Mr128 hm, bs, Ma128 hm (by omega), bs, e128]
    have hM := hPo.1
    obtain ⟨m1, m2, m3⟩ := pkM_1 (Mf i)
    have hMx : pkM (Mf i) ≤ 64 := by unfold pkM; split <;> omega
    have z0 : sumT (pkN (Df i)) 1 = 0 := rfl
    have z1 : sumT (pkL (Df i) (Af i) (Ef i)) 1 = 0 := rfl
    have w := sm_pk51 (i := i) (I := OWe σ) (k30 := f_M_pack_30 F f) (N := sumT (pkNN Mf Df) i) (L := sumT (pkLL Mf Df Af Ef) i) (S := 68 + sumT (pkZZ nf) i) hm hPo (by omega) e129 go (pkM (Mf i) - 1) 1 F (by omega) (by omega) (by omega)
    rw [z0, z1] at w
    exact w
/-- an object as pack reads it -/
theorem PKo_of {b : Nat → Nat} (hm : m ≤ h.length) (hF : 24 < F) (hB : ∀ k, isB (gA σ 6 k)) (eb : cb (gA σ 6) o n = b) (hon : o + n ≤ 65536) (he : eObj b n = 0) : PKo F m h (gA σ 6) o n (oM b) (fun k => decide (¬ (yB b k = 0 ∨ yW b k = 0))) (fun k => o + (oP b (oX b) + yN b k)) (fun k => o + (oP b (oX b) + yN b k) + yL b k) := by
  obtain ⟨hw, hy, _⟩ := eObj_0 he
  have hrk : rk (gA σ 6) o n := w1_rk (by rw [eb]; exact hw.1) hon
  have hS : 1 ≤ oS (cb (gA σ 6) o n) := by rw [eb]; exact hw.1.2.1.1
  refine ⟨w2_M hw, hon, fun σ' e6 => ?_, fun k h1 hk => ⟨fun σ' e6 => ?_, fun hD => ?_⟩⟩
  · have hb := Mmb (σ := σ') hm (by rw [e6]; exact hB)
    rw [e6] at hb
    rw [q_symbolMany hb hF hrk hS (by rw [eb]; exact w2_z hw), eb]
  · have hb := Mmb (σ := σ') hm (by rw [e6]; exact hB)
    rw [e6] at hb
    have hyk : yP (cb (gA σ 6) o n) k + 24 ≤ n := by rw [eb]; exact w2_y hw hk
    have q1 := q_bind (F := F) hb hF hrk hS hyk
    have q2 := q_where (F := F) hb hF hrk hS hyk
    rw [eb] at q1 q2
    have b1 : yB b k < 2 ^ 31 := by
      have := hy k h1 hk
      unfold yOK at this
      have := (of_decide_eq_true this).1
      omega
    have b2 : yW b k < 2 ^ 31 := by
      have := hy k h1 hk
      unfold yOK at this
      have h24 := hw.1.2.1.2
      rcases (of_decide_eq_true this).2.1 with e | e | e | e <;> omega
    unfold f_M_isDefining f_M_isDefining_22 f_M_isDefining_23
    rw [e_o hm, bs, q1, xb_mk]
    by_cases c1 : yB b k = 0
    · rw [if_pos (show nI (yB b k) = 0 by rw [c1]; rfl)]
      show _ = some (bI (decide (¬ (yB b k = 0 ∨ yW b k = 0))), mh m h σ')
      rw [show decide (¬ (yB b k = 0 ∨ yW b k = 0)) = false from decide_eq_false (fun w => w (Or.inl c1))]
      exact xz_b false _
    · rw [if_neg (nI_nz b1 c1), e_o hm, bs, q2, xb_mk]
      show _ = some (bI (decide (¬ (yB b k = 0 ∨ yW b k = 0))), mh m h σ')
      by_cases c2 : yW b k = 0
      · rw [if_pos (show nI (yW b k) = 0 by rw [c2]; rfl), show decide (¬ (yB b k = 0 ∨ yW b k = 0)) = false from decide_eq_false (fun w => w (Or.inr c2))]
        exact xz_b false _
      · rw [if_neg (nI_nz b2 c2), show decide (¬ (yB b k = 0 ∨ yW b k = 0)) = true from decide_eq_true (fun w => w.elim c1 c2)]
        exact xz_b true _
  · have hD' := of_decide_eq_true hD
    have hg : yG b k = true := by
      have := hy k h1 hk
      unfold yOK at this
      exact ((of_decide_eq_true this).2.2.2 (fun w => hD' (Or.inl w))).2.1
    have hgd := hg
    unfold yG at hgd
    have hgd := of_decide_eq_true hgd
    have hX := (hw.2 (w2_M0 hk)).2.2
    have hP := hw.1.2.2.2.1 (oX b) hX.1 (by rw [hX.2]; decide) (by rw [hX.2]; decide)
    have hlt : o + (oP b (oX b) + yN b k) + yL b k < 65536 := by
      generalize oP b (oX b) = x1 at *
      generalize yN b k = x2 at *
      generalize yL b k = x3 at *
      generalize oZ b (oX b) = x4 at *
      omega
    refine ⟨Nat.le_add_right _ _, hlt, fun σ' e6 => ⟨?_, ?_⟩⟩
    · have hb := Mmb (σ := σ') hm (by rw [e6]; exact hB)
      rw [e6] at hb
      rw [q_nameAt hb hF (by rw [eb]; exact hw) hon (by rw [eb]; exact hk), eb]
    · have q := q_nameEnd (F := F) (h := h) (m := m) (σ := σ') (o := o) (n := n) (k := k) hm (by rw [e6]; exact hB) hF (by rw [e6, eb]; exact hw) hon (by rw [e6, eb]; exact hk) (by rw [e6, eb]; exact hg)
      rw [e6, eb] at q
      exact q
theorem PKs_of {c : Nat} (hm : m ≤ h.length) (hF : 24 < F) (hr : RF σ0 fs) (hI : FOi fs σ0 σ c) (hc : c ≤ 7) : ∃ of nf Mf Df Af Ef, PKs F m h σ c of nf Mf Df Af Ef := by
  have hR := FOi_R hr hI
  have key : ∀ i, ∃ o n M D A E, i < c → gA σ 128 i = nI o ∧ gA σ 129 i = nI n ∧ PKo F m h (gA σ 6) o n M D A E := fun i => by
    by_cases hi : i < c
    · obtain ⟨q, o, n, b, e, e1, e2⟩ := hI.2.2 i hi
      obtain ⟨_, _, _, _, q5, q6, q7⟩ := RF_ob hR e
      exact ⟨o, n, _, _, _, _, fun _ => ⟨e1, e2, PKo_of hm hF hR.2.2.1 q5 q6 (q7 rfl)⟩⟩
    · exact ⟨0, 0, 0, fun _ => false, fun _ => 0, fun _ => 0, fun w => absurd w hi⟩
  exact ⟨fun i => (key i).choose, fun i => (key i).choose_spec.choose, fun i => (key i).choose_spec.choose_spec.choose, fun i => (key i).choose_spec.choose_spec.choose_spec.choose, fun i => (key i).choose_spec.choose_spec.choose_spec.choose_spec.choose, fun i => (key i).choose_spec.choose_spec.choose_spec.choose_spec.choose_spec.choose, hc, hI.2.1, fun i hi => (key i).choose_spec.choose_spec.choose_spec.choose_spec.choose_spec.choose_spec hi⟩
theorem OUo_FR {x1 x2 x3 x4 : List Nat} (ho : OUo σ0) (hf : FR x1 x2 x3 x4 σ0 σ) (h4 : 4 ∉ x1) (h3 : 3 ∉ x3) : OUo σ := by
  obtain ⟨⟨n, hn, en⟩, hb⟩ := ho
  exact ⟨⟨n, hn, (hf.1 4 h4).trans en⟩, by rw [hf.2.2.1 3 h3]; exact hb⟩
theorem sm_pack (hm : m ≤ h.length) (hF : 65540 < F) (hr : RF σ0 fs) (ho : OUo σ0) : Sm m h (PKe σ0) Any (f_M_pack F m (mh m h σ0)) := by
  unfold f_M_pack
  refine sm_pW (I1 := FR [0] [] [] [] σ0) hm rfl (FR_I _ _ _) (fun σ hi => ?_)
  have hr1 : RF σ fs := RF_0 hr hi
  refine sm_o hm (fun _ => sm_x (sm_fo hm hF hr1) (fun _ σ1 _ hfo => ?_))
  obtain ⟨c, hc64, hI⟩ := hfo
  have ho1 : OUo σ1 := OUo_FR (OUo_FR ho hi (by decide) (by decide)) hI.1 (by decide) (by decide)
  have fr1 : FR [0, 4, 127] [] [3, 128, 129] [] σ0 σ1 := FR_trans (FR_mono hi (by decide) (by decide) (by decide) (by decide)) (FR_mono hI.1 (by decide) (by decide) (by decide) (by decide))
  rw [Mg127 hm, bs, hI.2.1]
  by_cases c7 : c ≤ 7
  · rw [if_pos (nI_le c7 (by decide))]
    obtain ⟨of, nf, Mf, Df, Af, Ef, hP⟩ := PKs_of (F := F) hm (by omega) hr1 hI c7
    refine sm_wI (I1 := OWe σ1) (sm_pk30 hm hF hP ho1 c 0 F (Nat.zero_add _) (by omega)) (fun σ2 w => ?_)
    obtain ⟨cc, hcc, hW⟩ := w
    exact ⟨FR_trans fr1 (FR_mono hW.1 (by decide) (by decide) (by decide) (by decide)), ⟨cc, hcc, hW.2.1⟩, hW.2.2⟩
  · rw [if_neg (nI_ge (a := 7) (by omega) (by omega))]
    exact sm_r any ⟨fr1, ho1⟩
end MPY
end
section
/-! the reference merges: it counts parts and symbols (steps spelled out by sf/pp.py) -/
/-- what a merge reads of the link before it -/
def MGk (σ : px_S) (T : Nat) (tO tn : Nat → Nat) (tb : Nat → Nat → Nat) (dr : Nat → Bool) (xs : px_NL) (od : List Nat) (on : Bool) (R : Nat → Bool) : Prop := RWd σ T tO tn tb dr xs ∧ RSt σ on R ∧ RO σ od ∧ gI σ 14 = nI T
abbrev mgF (σ0 σ : px_S) : Prop := FR [123, 126] [] [117, 120, 121] [] σ0 σ
/-- part j: section i of object t -/
def MPj (σ : px_S) (T : Nat) (tb : Nat → Nat → Nat) (j t i : Nat) : Prop := t < T ∧ 1 ≤ i ∧ i < oS (tb t) ∧ gA σ 120 j = nI t ∧ gA σ 121 j = nI i ∧ (oK (tb t) i = true ∨ isS (tb t) i = true)
def MPt (σ : px_S) (T : Nat) (tb : Nat → Nat → Nat) (p : Nat) : Prop := 1 ≤ p ∧ p ≤ 22 ∧ gI σ 123 = nI p ∧ (∃ z, gI σ 126 = bI z) ∧ ∀ j, 1 ≤ j → j < p → ∃ t i, MPj σ T tb j t i
section MCN
variable {F m T t i : Nat} {h : px_H} {σ0 σ : px_S} {tO tn : Nat → Nat} {tb : Nat → Nat → Nat} {dr : Nat → Bool} {xs : px_NL} {od : List Nat} {on : Bool} {R : Nat → Bool} {I : px_S → Prop}
theorem MGk_FR {σ' : px_S} {x1 x2 x3 x4 : List Nat} (hk : MGk σ T tO tn tb dr xs od on R) (f : FR x1 x2 x3 x4 σ σ') (h1 : 20 ∉ x1 ∧ 68 ∉ x1 ∧ 48 ∉ x1 ∧ 14 ∉ x1) (h3 : ∀ k, k ∈ [6, 9, 17, 21, 22, 23, 24, 25, 26, 27, 28, 65, 73] → k ∉ x3) (h4 : 66 ∉ x3 ∧ 49 ∉ x3) (h5 : 30 ∉ x4) : MGk σ' T tO tn tb dr xs od on R :=
  ⟨RWd_FR hk.1 f h1.1 h3 h5, RSt_FR hk.2.1 f h1.2.1 h4.1, RO_FR hk.2.2.1 f h1.2.2.1 h4.2, (f.1 14 h1.2.2.2).trans hk.2.2.2⟩
theorem MGk_g (hk : MGk σ0 T tO tn tb dr xs od on R) (f : mgF σ0 σ) : MGk σ T tO tn tb dr xs od on R := MGk_FR hk f (by decide) (by decide) (by decide) (by decide)
theorem MGk_o (hk : MGk σ T tO tn tb dr xs od on R) (ht : t < T) : OB σ t (tO t) (tn t) (tb t) := hk.1.1 t ht
/-- a part comes -/
theorem sm_part {p : Nat} (hm : m ≤ h.length) (hT : T ≤ 64) (ht : t < T) (h1 : 1 ≤ i) (hi : i < 24) (hiS : i < oS (tb t)) (hKS : oK (tb t) i = true ∨ isS (tb t) i = true) (hf : mgF σ0 σ) (hP : MPt σ T tb p) : Sm m h (fun σ' => mgF σ0 σ' ∧ ∃ p, MPt σ' T tb p) Any (f_M_part F m (nI t) (nI i) (mh m h σ)) := by
  obtain ⟨p1, p2, e123, hz, hJ⟩ := hP
  unfold f_M_part
  rw [Mg123 hm, bs, e123]
  by_cases c : p = 22
  · rw [if_pos (by rw [c]), show nI 1 = bI true from rfl, e_pZ hm rfl, bs]
    exact sm_r any ⟨FR_trans hf (FR_mono (FR_I _ _ _) (by decide) (by decide) (by decide) (by decide)), p, p1, p2, e123, ⟨true, rfl⟩, hJ⟩
  · rw [if_neg (fun q => c ((nI_eq (by omega) (by decide)).mp q)), Mr117 hm, bs, bs, show nI 24 * nI t = nI (24 * t) from (Int32.ofNat_mul _ _).symm, nI_add, Ms117 hm (by omega), bs, Mr120 hm, bs, Mg123 hm, bs, gI_sA, e123, Ms120 hm (by omega), bs, Mr121 hm, bs, Mg123 hm, bs, gI_sA, gI_sA, e123, Ms121 hm (by omega), bs, Mg123 hm, bs, gI_sA, gI_sA, gI_sA, e123, nI_add, Mp123 hm, bs]
    refine sm_r any ⟨FR_trans (FR_trans (FR_trans (FR_trans hf (FR_mono (FR_A _ _ _) (by decide) (by decide) (by decide) (by decide))) (FR_mono (FR_A _ _ _) (by decide) (by decide) (by decide) (by decide))) (FR_mono (FR_A _ _ _) (by decide) (by decide) (by decide) (by decide))) (FR_mono (FR_I _ _ _) (by decide) (by decide) (by decide) (by decide)), p + 1, by omega, by omega, by rw [gI_sI, if_pos rfl], ?_, fun j j1 j2 => ?_⟩
    · obtain ⟨z, ez⟩ := hz
      exact ⟨z, by rw [gI_sI, if_neg (by decide)]; exact ez⟩
    · by_cases e : j = p
      · subst e
        refine ⟨t, i, ht, h1, hiS, ?_, ?_, hKS⟩
        · simp [gA_sI, gA_sA, upd]
        · simp [gA_sI, gA_sA, upd]
      · obtain ⟨t', i', w1, w2, w3, w4, w5, w6⟩ := hJ j j1 (by omega)
        refine ⟨t', i', w1, w2, w3, ?_, ?_, w6⟩
        · simp [gA_sI, gA_sA, upd, e, w4]
        · simp [gA_sI, gA_sA, upd, e, w5]
abbrev mgP (σ0 : px_S) (T : Nat) (tb : Nat → Nat → Nat) (σ : px_S) : Prop := mgF σ0 σ ∧ ∃ p, MPt σ T tb p
theorem sm_cp60 {k12 : Nat → Int32 → px_H → Option (Unit × px_H)} (hm : m ≤ h.length) (hF : 24 < F) (hT : T ≤ 64) (ht : t < T) (hk : MGk σ0 T tO tn tb dr xs od on R) (hK : ∀ σ, mgP σ0 T tb σ → Sm m h (mgP σ0 T tb) Any (k12 m (nI (t + 1)) (mh m h σ))) : ∀ (d i f : Nat) (σ : px_S), i + d = oS (tb t) → 1 ≤ i → d < f → mgP σ0 T tb σ → Sm m h (mgP σ0 T tb) Any (f_M_countParts_60 F k12 f m (nI t) (nI (tO t)) (nI i) (mh m h σ)) := by
  have hS24 := (OB_w (MGk_o hk ht)).1.2.1.2
  have he := (MGk_o hk ht).2.2.2.1
  intro d
  induction d with
  | zero =>
    intro i f σ hi h1 hf hI
    obtain ⟨f, rfl⟩ : ∃ y, f = y + 1 := ⟨f - 1, by omega⟩
    have hb := MGk_o (MGk_g hk hI.1) ht
    unfold f_M_countParts_60 f_M_countParts_105
    rw [e_o hm, bs, O_sec hm (by omega) hb, xb_mk, if_pos (nI_le (by omega) (by omega)), nI_add]
    exact hK σ hI
  | succ d ih =>
    intro i f σ hi h1 hf hI
    obtain ⟨f, rfl⟩ : ∃ y, f = y + 1 := ⟨f - 1, by omega⟩
    have hk1 := MGk_g hk hI.1
    have hb := MGk_o hk1 ht
    have hiS : i < oS (tb t) := by omega
    have go := fun σ hi => ih (i + 1) f σ (by omega) (by omega) (by omega) hi
    unfold f_M_countParts_60 f_M_countParts_99
    rw [e_o hm, bs, O_sec hm (by omega) hb, xb_mk, if_neg (nI_ge (by omega) (by omega)), e_o hm, bs, O_isS hm (by omega) hb hiS, xb_mk, nI_add]
    cases hs : isS (tb t) i with
    | false =>
      rw [if_pos (show bI false = 0 from rfl)]
      exact go σ hI
    | true =>
      have h0 := (eSit_0 he h1 hiS hs).1
      rw [if_neg (show ¬ bI true = 0 by decide), e_o hm, bs, O_info hm (by omega) hb hiS, xb_mk, lN_i, e_o hm, bs, q_stays hm (by omega) hb hk1.1.2.1 hk1.2.1 h0, xb_mk]
      refine sm_i (fun _ => go σ hI) (fun _ => ?_)
      obtain ⟨hf1, p, hP⟩ := hI
      exact sm_o hm (fun _ => sm_x (sm_part hm hT ht h1 (by omega) hiS (Or.inr hs) hf1 hP) (fun _ σ _ hi => go σ hi))
theorem sm_cp28 {k12 : Nat → Int32 → px_H → Option (Unit × px_H)} (hm : m ≤ h.length) (hF : 65540 < F) (hT : T ≤ 64) (ht : t < T) (hk : MGk σ0 T tO tn tb dr xs od on R) (hK : ∀ σ, mgP σ0 T tb σ → Sm m h (mgP σ0 T tb) Any (k12 m (nI (t + 1)) (mh m h σ))) : ∀ (d i f : Nat) (σ : px_S), i + d = oS (tb t) → 1 ≤ i → d < f → mgP σ0 T tb σ → Sm m h (mgP σ0 T tb) Any (f_M_countParts_28 F k12 f m (nI t) (nI (tO t)) (nI i) (mh m h σ)) := by
  have hS24 := (OB_w (MGk_o hk ht)).1.2.1.2
  intro d
  induction d with
  | zero =>
    intro i f σ hi h1 hf hI
    obtain ⟨f, rfl⟩ : ∃ y, f = y + 1 := ⟨f - 1, by omega⟩
    have hb := MGk_o (MGk_g hk hI.1) ht
    unfold f_M_countParts_28 f_M_countParts_58
    rw [e_o hm, bs, O_sec hm (by omega) hb, xb_mk, if_pos (nI_le (by omega) (by omega))]
    exact sm_cp60 hm (by omega) hT ht hk hK (oS (tb t) - 1) 1 F σ (by omega) (Nat.le_refl _) (by omega) hI
  | succ d ih =>
    intro i f σ hi h1 hf hI
    obtain ⟨f, rfl⟩ : ∃ y, f = y + 1 := ⟨f - 1, by omega⟩
    have hk1 := MGk_g hk hI.1
    have hb := MGk_o hk1 ht
    have hiS : i < oS (tb t) := by omega
    have go := fun σ hi => ih (i + 1) f σ (by omega) (by omega) (by omega) hi
    unfold f_M_countParts_28 f_M_countParts_52
    rw [e_o hm, bs, O_sec hm (by omega) hb, xb_mk, if_neg (nI_ge (by omega) (by omega)), e_o hm, bs, q_stays hm (by omega) hb hk1.1.2.1 hk1.2.1 hiS, xb_mk, nI_add]
    cases hs : sta tb dr on R t i with
    | false =>
      rw [if_pos (show bI false = 0 from rfl)]
      exact go σ hI
    | true =>
      rw [if_neg (show ¬ bI true = 0 by decide)]
      have hk' : oK (tb t) i = true := by
        unfold sta at hs
        rw [Bool.and_eq_true] at hs
        exact hs.1
      obtain ⟨hf1, p, hP⟩ := hI
      exact sm_o hm (fun _ => sm_x (sm_part hm hT ht h1 (by omega) hiS (Or.inl hk') hf1 hP) (fun _ σ _ hi => go σ hi))
theorem sm_cp12 (hm : m ≤ h.length) (hF : 65540 < F) (hT : T ≤ 64) (hk : MGk σ0 T tO tn tb dr xs od on R) : ∀ (d t f : Nat) (σ : px_S), t + d = T → d < f → mgP σ0 T tb σ → Sm m h (mgP σ0 T tb) Any (f_M_countParts_12 F f m (nI t) (mh m h σ)) := by
  intro d
  induction d with
  | zero =>
    intro t f σ ht hf hI
    obtain ⟨f, rfl⟩ : ∃ y, f = y + 1 := ⟨f - 1, by omega⟩
    unfold f_M_countParts_12 f_M_countParts_111
    rw [Mg14 hm, bs, (MGk_g hk hI.1).2.2.2, if_pos (nI_le (by omega) (by omega))]
    exact sm_r any hI
  | succ d ih =>
    intro t f σ ht hf hI
    obtain ⟨f, rfl⟩ : ∃ y, f = y + 1 := ⟨f - 1, by omega⟩
    have hk1 := MGk_g hk hI.1
    have hb := MGk_o hk1 (show t < T by omega)
    have hS := (OB_w hb).1.2.1
    unfold f_M_countParts_12
    rw [Mg14 hm, bs, hk1.2.2.2, if_neg (nI_ge (by omega) (by omega)), e_o hm, bs, O_obj hm hb, xb_mk]
    exact sm_cp28 hm hF hT (by omega) hk (fun σ hi => ih _ _ _ (by omega) (by omega) hi) (oS (tb t) - 1) 1 F σ (by omega) (Nat.le_refl _) (by omega) hI
theorem sm_countParts (hm : m ≤ h.length) (hF : 65540 < F) (hT : T ≤ 64) (hk : MGk σ0 T tO tn tb dr xs od on R) : Sm m h (mgP σ0 T tb) Any (f_M_countParts F m (mh m h σ0)) := by
  unfold f_M_countParts
  rw [Mp123 hm, bs, show nI 0 = bI false from rfl, e_pZ hm rfl, bs]
  refine sm_cp12 hm hF hT hk T 0 F _ (Nat.zero_add _) (by omega) ⟨FR_trans (FR_mono (FR_I _ _ _) (by decide) (by decide) (by decide) (by decide)) (FR_mono (FR_I _ _ _) (by decide) (by decide) (by decide) (by decide)), 1, Nat.le_refl _, by decide, rfl, ⟨false, rfl⟩, fun j h1 h2 => by omega⟩
end MCN
end
section
/-! the reference merges: it counts symbols (steps spelled out by sf/pp.py) -/
/-- the local symbols ahead of symbol k of object t have their numbers, below a -/
def MLo (σ : px_S) (tb : Nat → Nat → Nat) (t k a : Nat) : Prop := ∀ t' k', (t' < t ∨ (t' = t ∧ k' < k)) → 1 ≤ k' → k' < oM (tb t') → yB (tb t') k' = 0 → ∃ v, v < a ∧ gA σ 118 (64 * t' + k') = nI v
abbrev mgS (σ0 σ : px_S) : Prop := FR [124, 125] [] [118, 119, 122] [] σ0 σ
/-- the names that have a number: those from f on, below 64 -/
def MNl (σ : px_S) (N f a : Nat) : Prop := gI σ 124 = nI f ∧ ∀ k, f ≤ k → k < a → k < 64 → ∃ n, n < N ∧ gA σ 122 k = nI n
/-- symbols counted -/
def MSd (σ0 : px_S) (T : Nat) (tb : Nat → Nat → Nat) (N : Nat) (σ : px_S) : Prop := mgS σ0 σ ∧ ∃ f a, 1 ≤ f ∧ f ≤ a ∧ a < 2 ^ 20 ∧ gI σ 125 = nI a ∧ MLo σ tb T 0 a ∧ MNl σ N f a
section MCS
variable {F m T t i : Nat} {h : px_H} {σ0 σ : px_S} {tO tn : Nat → Nat} {tb : Nat → Nat → Nat} {dr : Nat → Bool} {xs : px_NL} {od : List Nat} {on : Bool} {R : Nat → Bool}
theorem MGk_s (hk : MGk σ0 T tO tn tb dr xs od on R) (f : mgS σ0 σ) : MGk σ T tO tn tb dr xs od on R := MGk_FR hk f (by decide) (by decide) (by decide) (by decide)
/-- a name gets its number -/
theorem sm_numN {n f a : Nat} (hm : m ≤ h.length) (hn : n < xs.length) (hx : xs.length ≤ 4096) (ha : a + 1 < 2 ^ 20) (hfa : f ≤ a) (hf : mgS σ0 σ) (e125 : gI σ 125 = nI a) (hL : MLo σ tb T 0 a) (hN : MNl σ xs.length f a) : Sm m h (fun σ' => mgS σ0 σ' ∧ gI σ' 125 = nI (a + 1) ∧ MLo σ' tb T 0 (a + 1) ∧ MNl σ' xs.length f (a + 1)) Any (f_M_numberName F m (nI n) (mh m h σ)) := by
  obtain ⟨e124, hK⟩ := hN
  unfold f_M_numberName
  rw [Mg125 hm, bs, e125]
  have fin : ∀ σ1, mgS σ0 σ1 → gI σ1 125 = nI a → gI σ1 124 = nI f → gA σ1 118 = gA σ 118 → (∀ k, f ≤ k → k < a + 1 → k < 64 → ∃ n, n < xs.length ∧ gA σ1 122 k = nI n) → Sm m h (fun σ' => mgS σ0 σ' ∧ gI σ' 125 = nI (a + 1) ∧ MLo σ' tb T 0 (a + 1) ∧ MNl σ' xs.length f (a + 1)) Any (f_M_numberName_19 F m (nI n) (mh m h σ1)) := fun σ1 g1 g2 g3 g4 g5 => by
    unfold f_M_numberName_19
    rw [Mr119 hm, bs, Mg125 hm, bs, g2, Ms119 hm (by omega), bs, Mg125 hm, bs, gI_sA, g2, nI_add, Mp125 hm, bs]
    refine sm_r any ⟨FR_trans (FR_trans g1 (FR_mono (FR_A _ _ _) (by decide) (by decide) (by decide) (by decide))) (FR_mono (FR_I _ _ _) (by decide) (by decide) (by decide) (by decide)), by rw [gI_sI, if_pos rfl], fun t' k' w1 w2 w3 w4 => ?_, by rw [gI_sI, if_neg (by decide), gI_sA]; exact g3, fun k k1 k2 k3 => ?_⟩
    · obtain ⟨v, v1, v2⟩ := hL t' k' w1 w2 w3 w4
      refine ⟨v, by omega, ?_⟩
      rw [gA_sI, gA_sA, if_neg (by decide), g4]
      exact v2
    · obtain ⟨n', n1, n2⟩ := g5 k k1 k2 k3
      exact ⟨n', n1, by rw [gA_sI, gA_sA, if_neg (by decide)]; exact n2⟩
  by_cases c : 64 ≤ a
  · rw [if_pos (nI_le c (by omega))]
    exact fin σ hf e125 e124 rfl (fun k k1 k2 k3 => hK k k1 (by omega) k3)
  · rw [if_neg (nI_ge (by omega) (by omega)), Mr122 hm, bs, bs, Ms122 hm (by omega), bs]
    refine fin _ (FR_trans hf (FR_mono (FR_A _ _ _) (by decide) (by decide) (by decide) (by decide))) (by rw [gI_sA]; exact e125) (by rw [gI_sA]; exact e124) (by rw [gA_sA, if_neg (by decide)]) (fun k k1 k2 k3 => ?_)
    rw [gA_sA, if_pos rfl]
    by_cases e : k = a
    · exact ⟨n, hn, by simp [upd, e]⟩
    · obtain ⟨n', n1, n2⟩ := hK k k1 (by omega) k3
      exact ⟨n', n1, by simp [upd, e, n2]⟩
theorem sm_cs119 (hm : m ≤ h.length) (hF : 65540 < F) (hk : MGk σ0 T tO tn tb dr xs od on R) {f0 : Nat} (hf1 : 1 ≤ f0) : ∀ (d n f a : Nat) (σ : px_S), n + d = xs.length → d < f → a + d < 2 ^ 20 → f0 ≤ a → mgS σ0 σ → gI σ 125 = nI a → MLo σ tb T 0 a → MNl σ xs.length f0 a → Sm m h (MSd σ0 T tb xs.length) Any (f_M_countSymbols_119 F f m (nI n) (mh m h σ)) := by
  have hx : xs.length ≤ 4096 := by have := hk.1.2.2.1.2.1; rw [List.length_map] at this; exact this
  intro d
  induction d with
  | zero =>
    intro n f a σ hn hf ha hfa hI e125 hL hN
    obtain ⟨f, rfl⟩ : ∃ y, f = y + 1 := ⟨f - 1, by omega⟩
    have e20 : gI σ 20 = nI xs.length := by have := (MGk_s hk hI).1.2.2.1.1; rw [List.length_map] at this; exact this
    unfold f_M_countSymbols_119 f_M_countSymbols_157
    rw [Mg20 hm, bs, e20, if_pos (nI_le (by omega) (by omega))]
    exact sm_r any ⟨hI, f0, a, hf1, hfa, by omega, e125, hL, hN⟩
  | succ d ih =>
    intro n f a σ hn hf ha hfa hI e125 hL hN
    obtain ⟨f, rfl⟩ : ∃ y, f = y + 1 := ⟨f - 1, by omega⟩
    have e20 : gI σ 20 = nI xs.length := by have := (MGk_s hk hI).1.2.2.1.1; rw [List.length_map] at this; exact this
    have e1 : Sm m h (MSd σ0 T tb xs.length) Any (f_M_countSymbols_151 F (f_M_countSymbols_119 F f) m (nI n) (mh m h σ)) := by
      unfold f_M_countSymbols_151
      rw [nI_add]
      exact ih _ _ a σ (by omega) (by omega) (by omega) hfa hI e125 hL hN
    have e2 : Sm m h (MSd σ0 T tb xs.length) Any (f_M_countSymbols_146 F (f_M_countSymbols_119 F f) m (nI n) (mh m h σ)) := by
      unfold f_M_countSymbols_146 f_M_countSymbols_151
      rw [nI_add]
      refine sm_o hm (fun _ => sm_x (sm_numN (F := F) (n := n) (xs := xs) hm (by omega) hx (by omega) hfa hI e125 hL hN) (fun _ σ _ hi => ?_))
      obtain ⟨g1, g2, g3, g4⟩ := hi
      exact ih _ _ (a + 1) σ (by omega) (by omega) (by omega) (by omega) g1 g2 g3 g4
    unfold f_M_countSymbols_119
    rw [Mg20 hm, bs, e20, if_neg (nI_ge (by omega) (by omega)), Mr23 hm, bs, Ma23 hm (by omega), bs]
    refine sm_i (fun _ => e2) (fun _ => ?_)
    rw [bs, Ma23 hm (by omega), bs]
    exact sm_i (fun _ => e2) (fun _ => e1)
theorem sm_cs93 (hm : m ≤ h.length) (hF : 65540 < F) (hk : MGk σ0 T tO tn tb dr xs od on R) (hod : ∀ d, d ∈ od → d < xs.length) {f0 : Nat} (hf1 : 1 ≤ f0) : ∀ (d q f a : Nat) (σ : px_S), q + d = od.length → d < f → a + d + xs.length < 2 ^ 20 → f0 ≤ a → mgS σ0 σ → gI σ 125 = nI a → MLo σ tb T 0 a → MNl σ xs.length f0 a → Sm m h (MSd σ0 T tb xs.length) Any (f_M_countSymbols_93 F f m (nI q) (mh m h σ)) := by
  have hx : xs.length ≤ 4096 := by have := hk.1.2.2.1.2.1; rw [List.length_map] at this; exact this
  have hl := hk.2.2.1.2.1
  intro d
  induction d with
  | zero =>
    intro q f a σ hq hf ha hfa hI e125 hL hN
    obtain ⟨f, rfl⟩ : ∃ y, f = y + 1 := ⟨f - 1, by omega⟩
    unfold f_M_countSymbols_93 f_M_countSymbols_117
    rw [Mg48 hm, bs, (MGk_s hk hI).2.2.1.1, if_pos (nI_le (by omega) (by omega))]
    exact sm_cs119 hm hF hk hf1 xs.length 0 F a σ (Nat.zero_add _) (by omega) (by omega) hfa hI e125 hL hN
  | succ d ih =>
    intro q f a σ hq hf ha hfa hI e125 hL hN
    obtain ⟨f, rfl⟩ : ∃ y, f = y + 1 := ⟨f - 1, by omega⟩
    have hx' : od[q]? = some od[q] := List.getElem?_eq_getElem (by omega)
    have hO := (MGk_s hk hI).2.2.1
    unfold f_M_countSymbols_93
    rw [Mg48 hm, bs, hO.1, if_neg (nI_ge (by omega) (by omega)), Mr49 hm, bs, Ma49 hm (by omega), bs, hO.2.2 q _ hx', nI_add]
    refine sm_o hm (fun _ => sm_x (sm_numN (F := F) (n := od[q]) (xs := xs) hm (hod _ (List.getElem_mem _)) hx (by omega) hfa hI e125 hL hN) (fun _ σ _ hi => ?_))
    obtain ⟨g1, g2, g3, g4⟩ := hi
    exact ih _ _ (a + 1) σ (by omega) (by omega) (by omega) (by omega) g1 g2 g3 g4
theorem sm_cs17 {k7 : Nat → Int32 → px_H → Option (Unit × px_H)} (hm : m ≤ h.length) (hF : 65540 < F) (hT : T ≤ 64) (ht : t < T) (hk : MGk σ0 T tO tn tb dr xs od on R) (hK : ∀ σ a, 1 ≤ a → a ≤ 1 + 64 * (t + 1) → mgS σ0 σ → gI σ 125 = nI a → MLo σ tb (t + 1) 0 a → Sm m h (MSd σ0 T tb xs.length) Any (k7 m (nI (t + 1)) (mh m h σ))) : ∀ (d k f a : Nat) (σ : px_S), k + d = pkM (oM (tb t)) → 1 ≤ k → d < f → 1 ≤ a → a ≤ 64 * t + k → mgS σ0 σ → gI σ 125 = nI a → MLo σ tb t k a → Sm m h (MSd σ0 T tb xs.length) Any (f_M_countSymbols_17 F k7 f m (nI t) (nI k) (mh m h σ)) := by
  have hM := w2_M (OB_w (MGk_o hk ht))
  obtain ⟨m1, m2, m3⟩ := pkM_1 (oM (tb t))
  have hMx : pkM (oM (tb t)) ≤ 64 := by unfold pkM; split <;> omega
  intro d
  induction d with
  | zero =>
    intro k f a σ hk1 h1 hf ha1 ha hI e125 hL
    obtain ⟨f, rfl⟩ : ∃ y, f = y + 1 := ⟨f - 1, by omega⟩
    have hb := MGk_o (MGk_s hk hI) ht
    unfold f_M_countSymbols_17 f_M_countSymbols_77
    rw [e_o hm, bs, O_obj hm hb, xb_mk, e_o hm, bs, O_many hm (by omega) hb, xb_mk, if_pos (nI_le (by omega) (by omega)), nI_add]
    refine hK σ a ha1 (by omega) hI e125 (fun t' k' w1 w2 w3 w4 => hL t' k' ?_ w2 w3 w4)
    rcases w1 with w1 | w1
    · by_cases e : t' = t
      · subst e
        exact Or.inr ⟨rfl, by omega⟩
      · exact Or.inl (by omega)
    · omega
  | succ d ih =>
    intro k f a σ hk1 h1 hf ha1 ha hI e125 hL
    obtain ⟨f, rfl⟩ : ∃ y, f = y + 1 := ⟨f - 1, by omega⟩
    have hb := MGk_o (MGk_s hk hI) ht
    have hkM := m3 k h1 (by omega)
    have hyB : yB (tb t) k < 2 ^ 31 := by
      have := OB_y hb h1 hkM
      unfold yOK at this
      have := (of_decide_eq_true this).1
      omega
    unfold f_M_countSymbols_17 f_M_countSymbols_71
    rw [e_o hm, bs, O_obj hm hb, xb_mk, e_o hm, bs, O_many hm (by omega) hb, xb_mk, if_neg (nI_ge (by omega) (by omega)), e_o hm, bs, O_obj hm hb, xb_mk, e_o hm, bs, O_bind hm (by omega) hb hkM, xb_mk, nI_add]
    by_cases c : yB (tb t) k = 0
    · rw [if_pos (by rw [c]; rfl), Mr118 hm, bs, Mg125 hm, bs, e125, show nI 64 * nI t = nI (64 * t) from (Int32.ofNat_mul _ _).symm, nI_add, Ms118 hm (by omega), bs, Mg125 hm, bs, gI_sA, e125, nI_add, Mp125 hm, bs]
      refine ih (k + 1) f (a + 1) _ (by omega) (by omega) (by omega) (by omega) (by omega) (FR_trans (FR_trans hI (FR_mono (FR_A _ _ _) (by decide) (by decide) (by decide) (by decide))) (FR_mono (FR_I _ _ _) (by decide) (by decide) (by decide) (by decide))) (by rw [gI_sI, if_pos rfl]) (fun t' k' w1 w2 w3 w4 => ?_)
      rw [gA_sI, gA_sA, if_pos rfl]
      by_cases e : 64 * t' + k' = 64 * t + k
      · exact ⟨a, by omega, by simp [upd, e]⟩
      · obtain ⟨v, v1, v2⟩ := hL t' k' (by
          rcases w1 with w1 | ⟨w1, w5⟩
          · exact Or.inl w1
          · refine Or.inr ⟨w1, ?_⟩
            have : k' ≠ k := fun q => e (by rw [w1, q])
            omega) w2 w3 w4
        exact ⟨v, by omega, by simp [upd, e, v2]⟩
    · rw [if_neg (nI_nz hyB c)]
      refine ih (k + 1) f a σ (by omega) (by omega) (by omega) ha1 (by omega) hI e125 (fun t' k' w1 w2 w3 w4 => hL t' k' ?_ w2 w3 w4)
      rcases w1 with w1 | ⟨w1, w5⟩
      · exact Or.inl w1
      · refine Or.inr ⟨w1, ?_⟩
        have : k' ≠ k := fun q => c (by rw [w1, q] at w4; exact w4)
        omega
theorem sm_cs7 (hm : m ≤ h.length) (hF : 65540 < F) (hT : T ≤ 64) (hk : MGk σ0 T tO tn tb dr xs od on R) (hod : ∀ d, d ∈ od → d < xs.length) : ∀ (d t f a : Nat) (σ : px_S), t + d = T → d < f → 1 ≤ a → a ≤ 1 + 64 * t → mgS σ0 σ → gI σ 125 = nI a → MLo σ tb t 0 a → Sm m h (MSd σ0 T tb xs.length) Any (f_M_countSymbols_7 F f m (nI t) (mh m h σ)) := by
  have hx : xs.length ≤ 4096 := by have := hk.1.2.2.1.2.1; rw [List.length_map] at this; exact this
  have hl := hk.2.2.1.2.1
  intro d
  induction d with
  | zero =>
    intro t f a σ ht hf ha1 ha hI e125 hL
    obtain ⟨f, rfl⟩ : ∃ y, f = y + 1 := ⟨f - 1, by omega⟩
    obtain rfl : t = T := by omega
    unfold f_M_countSymbols_7 f_M_countSymbols_83
    rw [Mg14 hm, bs, (MGk_s hk hI).2.2.2, if_pos (nI_le (by omega) (by omega)), Mg125 hm, bs, e125, Mp124 hm, bs]
    refine sm_cs93 hm hF hk hod ha1 od.length 0 F a _ (Nat.zero_add _) (by omega) (by omega) (Nat.le_refl _) (FR_trans hI (FR_mono (FR_I _ _ _) (by decide) (by decide) (by decide) (by decide))) (by rw [gI_sI, if_neg (by decide)]; exact e125) hL ⟨by rw [gI_sI, if_pos rfl], fun k k1 k2 => by omega⟩
  | succ d ih =>
    intro t f a σ ht hf ha1 ha hI e125 hL
    obtain ⟨f, rfl⟩ : ∃ y, f = y + 1 := ⟨f - 1, by omega⟩
    have hMM := w2_M (OB_w (MGk_o hk (show t < T by omega)))
    obtain ⟨m1, m2, m3⟩ := pkM_1 (oM (tb t))
    have hMx : pkM (oM (tb t)) ≤ 64 := by unfold pkM; split <;> omega
    unfold f_M_countSymbols_7
    rw [Mg14 hm, bs, (MGk_s hk hI).2.2.2, if_neg (nI_ge (by omega) (by omega))]
    refine sm_cs17 hm hF hT (by omega) hk (fun σ a g1 g2 g3 g4 g5 => ih _ _ a σ (by omega) (by omega) g1 g2 g3 g4 g5) (pkM (oM (tb t)) - 1) 1 F a σ (by omega) (Nat.le_refl _) (by omega) ha1 (by omega) hI e125 (fun t' k' w1 w2 w3 w4 => hL t' k' ?_ w2 w3 w4)
    rcases w1 with w1 | w1
    · exact Or.inl w1
    · omega
theorem sm_countSymbols (hm : m ≤ h.length) (hF : 65540 < F) (hT : T ≤ 64) (hk : MGk σ0 T tO tn tb dr xs od on R) (hod : ∀ d, d ∈ od → d < xs.length) : Sm m h (MSd σ0 T tb xs.length) Any (f_M_countSymbols F m (mh m h σ0)) := by
  unfold f_M_countSymbols
  rw [Mp125 hm, bs]
  exact sm_cs7 hm hF hT hk hod T 0 F 1 _ (Nat.zero_add _) (by omega) (Nat.le_refl _) (by omega) (FR_mono (FR_I _ _ _) (by decide) (by decide) (by decide) (by decide)) (by rw [gI_sI, if_pos rfl]) (fun t' k' w1 => by omega)
end MCS
end
section
/-! the reference merges: where its parts stand (steps spelled out by sf/pp.py) -/
def wiN (x : Nat) : Nat := (x + 7) / 8 * 8
theorem wiN_b (x : Nat) : x ≤ wiN x ∧ wiN x ≤ x + 7 := by unfold wiN; omega
theorem wiN_m {x y : Nat} (h : x ≤ y) : wiN x ≤ wiN y := by unfold wiN; omega
theorem q_wider8 {F m x : Nat} {h : px_H} (hx : x < 2 ^ 29) : f_M_wider F m (nI x) h = some (nI (wiN x), h) := by
  unfold f_M_wider wiN
  rw [nI_add, nI_divG (by omega) (by decide), show nI ((x + 7) / 8) * nI 8 = nI ((x + 7) / 8 * 8) from (Int32.ofNat_mul _ _).symm]
def plA (sz : Nat → Nat) : Nat → Nat
  | 0 => 64
  | k + 1 => wiN (plA sz k) + sz (k + 1)
theorem plA_s (sz : Nat → Nat) (k : Nat) : plA sz (k + 1) = wiN (plA sz k) + sz (k + 1) := rfl
theorem plA_b {sz : Nat → Nat} (h : ∀ j, sz j ≤ 65536) : ∀ k, plA sz k ≤ 64 + 65543 * k
  | 0 => Nat.le_refl _
  | k + 1 => by
    have h1 := plA_b h k
    have h2 := (wiN_b (plA sz k)).2
    have h3 := h (k + 1)
    rw [plA_s]
    omega
theorem plA_m {sz : Nat → Nat} {a : Nat} : ∀ {b : Nat}, a ≤ b → plA sz a ≤ plA sz b
  | 0, h => by rw [Nat.le_zero.mp h]; exact Nat.le_refl _
  | b + 1, h => by
    by_cases e : a = b + 1
    · rw [e]; exact Nat.le_refl _
    · have h1 := plA_m (sz := sz) (a := a) (b := b) (by omega)
      have h2 := (wiN_b (plA sz b)).1
      rw [plA_s]
      omega
def plN (sz : Nat → Nat) (J : Nat) : Nat := wiN (plA sz (J - 1))
theorem plN_m {sz : Nat → Nat} {a b : Nat} (h : a ≤ b) : plN sz a ≤ plN sz b := wiN_m (plA_m (by omega))
theorem plN_in {sz : Nat → Nat} {j : Nat} (h : 1 ≤ j) : plN sz j + sz j ≤ plN sz (j + 1) := by
  obtain ⟨k, rfl⟩ : ∃ k, j = k + 1 := ⟨j - 1, by omega⟩
  unfold plN
  rw [Nat.add_sub_cancel, Nat.add_sub_cancel, plA_s]
  exact (wiN_b _).1
def szF (p a : Nat) (zf : Nat → Nat) (j : Nat) : Nat := if j < p then zf j else 24 * a
/-- what places are made of -/
def MGs (F m : Nat) (h : px_H) (σ0 : px_S) (p a N : Nat) (zf lf : Nat → Nat) : Prop := (1 ≤ p ∧ p ≤ 22 ∧ a ≤ 64 ∧ N ≤ 4096) ∧ gI σ0 123 = nI p ∧ gI σ0 125 = nI a ∧ gI σ0 20 = nI N ∧ (∀ k, k < N → gA σ0 22 k = nI (lf k) ∧ lf k ≤ 20) ∧ (∀ j, zf j ≤ 65536) ∧ ∀ σ c j, OWi σ0 σ c → 1 ≤ j → j < p → f_M_partSize F m (nI j) (mh m h σ) = some (nI (zf j), mh m h σ)
def rwN (p a N : Nat) (zf lf : Nat → Nat) : Nat := wiN (plN (szF p a zf) (p + 1) + (1 + sumT (fun k => lf k + 1) N))
section MPL
variable {F m : Nat} {h : px_H} {σ0 σ : px_S} {p a N c : Nat} {zf lf : Nat → Nat} {I : px_S → Prop}
theorem szF_b (hS : MGs F m h σ0 p a N zf lf) (j : Nat) : szF p a zf j ≤ 65536 := by
  unfold szF
  have := hS.1
  split
  · exact hS.2.2.2.2.2.1 j
  · omega
theorem plN_b (hS : MGs F m h σ0 p a N zf lf) {J : Nat} (hJ : J ≤ 24) : plN (szF p a zf) J < 2 ^ 22 := by
  have h1 := plA_b (szF_b hS) (J - 1)
  have h2 := (wiN_b (plA (szF p a zf) (J - 1))).2
  unfold plN
  omega
theorem q_pl5 (hm : m ≤ h.length) (hS : MGs F m h σ0 p a N zf lf) (hI : OWi σ0 σ c) {J : Nat} (hJ : J ≤ 24) : ∀ (d k f : Nat), k + 1 + d = J → d < f → f_M_placeOf_5 F f m (nI J) (nI (plA (szF p a zf) k)) (nI (k + 1)) (mh m h σ) = some (nI (plN (szF p a zf) J), mh m h σ) := by
  have hS' := hS
  obtain ⟨⟨p1, p2, a1, n1⟩, e123, e125, -, -, hzb, hps⟩ := hS'
  have hb := plA_b (szF_b hS)
  intro d
  induction d with
  | zero =>
    intro k f hk hf
    obtain ⟨f, rfl⟩ : ∃ y, f = y + 1 := ⟨f - 1, by omega⟩
    obtain rfl : J = k + 1 := by omega
    have hbk := hb k
    unfold f_M_placeOf_5 f_M_placeOf_46 plN
    rw [if_pos (nI_le (by omega) (by omega)), e_o hm, bs, q_wider8 (by omega), xb_mk, Nat.add_sub_cancel]
  | succ d ih =>
    intro k f hk hf
    obtain ⟨f, rfl⟩ : ∃ y, f = y + 1 := ⟨f - 1, by omega⟩
    have hbk := hb k
    have go := ih (k + 1) f (by omega) (by omega)
    unfold f_M_placeOf_5 f_M_placeOf_38
    rw [if_neg (nI_ge (by omega) (by omega)), e_o hm, bs, q_wider8 (by omega), xb_mk, Mg123 hm, bs, hI.1.1 123 (by decide), e123]
    by_cases cc : p ≤ k + 1
    · rw [if_pos (nI_le cc (by omega)), Mg125 hm, bs, hI.1.1 125 (by decide), e125, show nI 24 * nI a = nI (24 * a) from (Int32.ofNat_mul _ _).symm, nI_add, nI_add]
      rw [plA_s, show szF p a zf (k + 1) = 24 * a from if_neg (by omega)] at go
      exact go
    · rw [if_neg (nI_ge (by omega) (by omega)), e_o hm, bs, hps σ c (k + 1) hI (by omega) (by omega), xb_mk, nI_add, nI_add]
      rw [plA_s, show szF p a zf (k + 1) = zf (k + 1) from if_pos (by omega)] at go
      exact go
theorem q_pl (hm : m ≤ h.length) (hF : 65540 < F) (hS : MGs F m h σ0 p a N zf lf) (hI : OWi σ0 σ c) {J : Nat} (h1 : 1 ≤ J) (hJ : J ≤ 24) : f_M_placeOf F m (nI J) (mh m h σ) = some (nI (plN (szF p a zf) J), mh m h σ) := by
  unfold f_M_placeOf
  exact q_pl5 hm hS hI hJ (J - 1) 0 F (by omega) (by omega)
theorem q_tx4 (hm : m ≤ h.length) (hS : MGs F m h σ0 p a N zf lf) (hI : OWi σ0 σ c) : ∀ (d k f : Nat), k + d = N → d < f → f_M_textMany_4 F f m (nI (1 + sumT (fun k => lf k + 1) k)) (nI k) (mh m h σ) = some (nI (1 + sumT (fun k => lf k + 1) N), mh m h σ) := by
  obtain ⟨⟨p1, p2, a1, n1⟩, e123, e125, e20, e22, -, -⟩ := hS
  intro d
  induction d with
  | zero =>
    intro k f hk hf
    obtain ⟨f, rfl⟩ : ∃ y, f = y + 1 := ⟨f - 1, by omega⟩
    obtain rfl : k = N := by omega
    unfold f_M_textMany_4 f_M_textMany_29
    rw [Mg20 hm, bs, hI.1.1 20 (by decide), e20, if_pos (nI_le (by omega) (by omega))]
  | succ d ih =>
    intro k f hk hf
    obtain ⟨f, rfl⟩ : ∃ y, f = y + 1 := ⟨f - 1, by omega⟩
    have es : sumT (fun k => lf k + 1) (k + 1) = sumT (fun k => lf k + 1) k + (lf k + 1) := rfl
    have go := ih (k + 1) f (by omega) (by omega)
    rw [es, ← Nat.add_assoc] at go
    unfold f_M_textMany_4
    rw [Mg20 hm, bs, hI.1.1 20 (by decide), e20, if_neg (nI_ge (by omega) (by omega)), Mr22 hm, bs, Ma22 hm (by omega), bs, hI.1.2.2.1 22 (by decide), (e22 k (by omega)).1, nI_add, nI_add, nI_add]
    exact go
theorem tx_b (hS : MGs F m h σ0 p a N zf lf) : sumT (fun k => lf k + 1) N ≤ 86016 := by
  obtain ⟨⟨p1, p2, a1, n1⟩, e123, e125, e20, e22, -, -⟩ := hS
  have := sumT_b' (f := fun k => lf k + 1) (k := 21) (n := N) (fun i hi => by have := (e22 i hi).2; show lf i + 1 ≤ 21; omega)
  omega
theorem q_tx (hm : m ≤ h.length) (hF : 65540 < F) (hS : MGs F m h σ0 p a N zf lf) (hI : OWi σ0 σ c) : f_M_textMany F m (mh m h σ) = some (nI (1 + sumT (fun k => lf k + 1) N), mh m h σ) := by
  have hn := hS.1.2.2.2
  unfold f_M_textMany
  exact q_tx4 hm hS hI N 0 F (Nat.zero_add _) (by omega)
theorem q_row8 (hm : m ≤ h.length) (hF : 65540 < F) (hS : MGs F m h σ0 p a N zf lf) (hI : OWi σ0 σ c) {j : Nat} : f_M_mergedRow F m (nI j) (mh m h σ) = some (nI (rwN p a N zf lf + 64 * j), mh m h σ) := by
  have hp := hS.1
  have b1 := plN_b hS (J := p + 1) (by omega)
  have b2 := tx_b hS
  unfold f_M_mergedRow
  rw [Mg123 hm, bs, hI.1.1 123 (by decide), hS.2.1, nI_add, e_o hm, bs, q_pl hm hF hS hI (by omega) (by omega), xb_mk, e_o hm, bs, q_tx hm hF hS hI, xb_mk, nI_add, e_o hm, bs, q_wider8 (by omega), xb_mk, show nI 64 * nI j = nI (64 * j) from (Int32.ofNat_mul _ _).symm, nI_add]
  rfl
theorem rwN_b (hS : MGs F m h σ0 p a N zf lf) : plN (szF p a zf) (p + 1) ≤ rwN p a N zf lf ∧ rwN p a N zf lf < 2 ^ 24 := by
  have hp := hS.1
  have b1 := plN_b hS (J := p + 1) (by omega)
  have b2 := tx_b hS
  have b3 := wiN_b (plN (szF p a zf) (p + 1) + (1 + sumT (fun k => lf k + 1) N))
  unfold rwN
  omega
theorem sm_put {α : Type} {V : α → Prop} {f : Unit → px_H → Option (α × px_H)} {q n : Nat} {v : Int64} (hm : m ≤ h.length) (hF : 65540 < F) (hI : OWi σ0 σ c) (hq : q + n ≤ 65536) (g : ∀ σ, OWi σ0 σ c → Sm m h I V (f () (mh m h σ))) : Sm m h I V ((xo (mh m h σ) 12 m).bind fun _ => xb (f_M_put F m (nI q) v (nI n) (mh m h σ)) f) := by
  obtain ⟨σ', e, w1, w2⟩ := q_put (F := F) (σ := σ) (at0 := q) (n := n) (v := v) hm (by omega) hq hI.2.2
  rw [e_o hm, bs, e, xb_mk]
  exact g σ' ⟨FR_trans hI.1 (FR_mono w1 (by decide) (by decide) (by decide) (by decide)), (w1.1 4 List.not_mem_nil).trans hI.2.1, w2⟩
theorem sm_rows {j : Nat} {x1 x2 x5 x6 : Int64} {x3 x4 : Int32} (hm : m ≤ h.length) (hF : 65540 < F) (hS : MGs F m h σ0 p a N zf lf) (hA : rwN p a N zf lf + 64 * (p + 2) ≤ 8192) (h1 : 1 ≤ j) (hj : j ≤ p + 1) (hI : OWi σ0 σ c) : Sm m h (fun σ' => OWi σ0 σ' c) Any (f_M_mergedRows F m (nI j) x1 x2 x3 x4 x5 x6 (mh m h σ)) := by
  have hp := hS.1
  unfold f_M_mergedRows
  rw [e_o hm, bs, q_row8 hm hF hS hI, xb_mk]
  generalize rwN p a N zf lf = W at *
  rw [nI_add]
  refine sm_put hm hF hI (by omega) (fun σ hi => ?_)
  rw [e_o hm, bs, q_pl hm hF hS hi h1 (by omega), xb_mk, nI_add]
  refine sm_put hm hF hi (by omega) (fun σ hi => ?_)
  rw [nI_add]
  refine sm_put hm hF hi (by omega) (fun σ hi => ?_)
  rw [nI_add]
  refine sm_put hm hF hi (by omega) (fun σ hi => ?_)
  rw [nI_add]
  refine sm_put hm hF hi (by omega) (fun σ hi => ?_)
  rw [nI_add]
  refine sm_put hm hF hi (by omega) (fun σ hi => ?_)
  rw [nI_add]
  exact sm_put hm hF hi (by omega) (fun σ hi => sm_r any hi)
theorem sm_mgsy {k : Nat} {x1 x2 : Int32} {x3 x4 : Int64} (hm : m ≤ h.length) (hF : 65540 < F) (hS : MGs F m h σ0 p a N zf lf) (hA : rwN p a N zf lf + 64 * (p + 2) ≤ 8192) (hk : k ≤ 64) (hI : OWi σ0 σ c) : Sm m h (fun σ' => OWi σ0 σ' c) Any (f_M_mergedSymbol F m (nI k) x1 x2 x3 x4 (mh m h σ)) := by
  have hp := hS.1
  have b1 := (rwN_b hS).1
  have b2 := plN_m (sz := szF p a zf) (show p ≤ p + 1 by omega)
  unfold f_M_mergedSymbol
  rw [Mg123 hm, bs, hI.1.1 123 (by decide), hS.2.1, e_o hm, bs, q_pl hm hF hS hI hp.1 (by omega), xb_mk, show nI 24 * nI k = nI (24 * k) from (Int32.ofNat_mul _ _).symm, nI_add]
  generalize plN (szF p a zf) (p + 1) = W1 at *
  generalize plN (szF p a zf) p = W at *
  generalize rwN p a N zf lf = W2 at *
  rw [nI_add]
  refine sm_put hm hF hI (by omega) (fun σ hi => ?_)
  rw [nI_add]
  refine sm_put hm hF hi (by omega) (fun σ hi => ?_)
  rw [nI_add]
  refine sm_put hm hF hi (by omega) (fun σ hi => ?_)
  rw [nI_add]
  exact sm_put hm hF hi (by omega) (fun σ hi => sm_r any hi)
end MPL
end
section
/-! the reference merges: sections and sites (steps spelled out by sf/pp.py) -/
/-- a part's bytes -/
def ptZ (b : Nat → Nat) (i : Nat) : Nat := if oT b i = 8 then 0 else oZ b i
section MSE
variable {F m T : Nat} {h : px_H} {σ0 σ : px_S} {tO tn : Nat → Nat} {tb : Nat → Nat → Nat} {dr : Nat → Bool} {xs : px_NL} {od : List Nat} {on : Bool} {R : Nat → Bool} {p a N c j t i : Nat} {zf lf : Nat → Nat}
theorem MGk_w (hk : MGk σ0 T tO tn tb dr xs od on R) (hI : OWi σ0 σ c) : MGk σ T tO tn tb dr xs od on R := MGk_FR hk hI.1 (by decide) (by decide) (by decide) (by decide)
theorem MPj_w (hP : MPj σ0 T tb j t i) (hI : OWi σ0 σ c) : MPj σ T tb j t i := by
  obtain ⟨h1, h2, h3, h4, h5, h6⟩ := hP
  exact ⟨h1, h2, h3, by rw [hI.1.2.2.1 120 (by decide)]; exact h4, by rw [hI.1.2.2.1 121 (by decide)]; exact h5, h6⟩
theorem MPj_in (hk : MGk σ T tO tn tb dr xs od on R) (hP : MPj σ T tb j t i) : oT (tb t) i = 8 ∨ oP (tb t) i + oZ (tb t) i ≤ tn t := by
  obtain ⟨h1, h2, h3, h4, h5, h6⟩ := hP
  have hb := MGk_o hk h1
  rcases h6 with h6 | h6
  · unfold oK at h6
    rcases (of_decide_eq_true h6).1 with e | e
    · exact Or.inr ((OB_w hb).1.2.2.2.1 i h3 (by rw [e]; decide) (by rw [e]; decide))
    · exact Or.inl e
  · exact Or.inr (eSit_0 hb.2.2.2.1 h2 h3 h6).2.2.2.1
theorem ptZ_b (hk : MGk σ T tO tn tb dr xs od on R) (hP : MPj σ T tb j t i) : ptZ (tb t) i ≤ 65536 ∧ (0 < ptZ (tb t) i → tO t + oP (tb t) i + ptZ (tb t) i ≤ 65536) := by
  have hb := MGk_o hk hP.1
  have hn := hb.2.2.1
  have hin := MPj_in hk hP
  unfold ptZ
  by_cases e : oT (tb t) i = 8
  · rw [if_pos e]; exact ⟨by omega, fun q => absurd q (by omega)⟩
  · rw [if_neg e]
    rcases hin with w | w
    · exact absurd w e
    · generalize oP (tb t) i = x1 at *
      generalize oZ (tb t) i = x2 at *
      exact ⟨by omega, fun _ => by omega⟩
theorem q_isPart {y : Nat} (hm : m ≤ h.length) (hF : 24 < F) (hk : MGk σ T tO tn tb dr xs od on R) (hj : j < 24) (hy : y < 2 ^ 32) (hP : MPj σ T tb j t i) : f_M_isPart F m (nI j) (lN y) (mh m h σ) = some (bI (decide (oT (tb t) i = y)), mh m h σ) := by
  obtain ⟨h1, h2, h3, h4, h5, h6⟩ := hP
  have hb := MGk_o hk h1
  have hT := oT_lt (OB_lt hb) i
  unfold f_M_isPart f_M_isPart_30
  rw [Mr120 hm, bs, Ma120 hm hj, bs, h4, e_o hm, bs, O_obj hm hb, xb_mk, Mr121 hm, bs, Ma121 hm hj, bs, h5, e_o hm, bs, O_type hm hF hb h3, xb_mk]
  by_cases e : oT (tb t) i = y
  · rw [if_pos (by rw [e]), decide_eq_true e]
    exact xz_b true _
  · rw [if_neg (fun q => e ((lEQ (by omega) (by omega)).mp q)), decide_eq_false e]
    exact xz_b false _
theorem q_partSize (hm : m ≤ h.length) (hF : 24 < F) (hk : MGk σ T tO tn tb dr xs od on R) (hj : j < 24) (hP : MPj σ T tb j t i) : f_M_partSize F m (nI j) (mh m h σ) = some (nI (ptZ (tb t) i), mh m h σ) := by
  have q := q_isPart (F := F) (y := 8) hm hF hk hj (by decide) hP
  obtain ⟨h1, h2, h3, h4, h5, h6⟩ := hP
  have hb := MGk_o hk h1
  unfold f_M_partSize f_M_partSize_36 ptZ
  rw [e_o hm, bs, show (8 : Int64) = lN 8 from rfl, q, xb_mk]
  by_cases e : oT (tb t) i = 8
  · rw [decide_eq_true e, if_neg (show ¬ bI true = 0 by decide), if_pos e]
  · rw [decide_eq_false e, if_pos (show bI false = 0 from rfl), if_neg e, Mr120 hm, bs, Ma120 hm hj, bs, h4, e_o hm, bs, O_obj hm hb, xb_mk, Mr121 hm, bs, Ma121 hm hj, bs, h5, e_o hm, bs, O_size hm hF hb h3, xb_mk, lN_i]
theorem sm_ms67 {o P : Nat} (hm : m ≤ h.length) (hF : 65540 < F) (hS : MGs F m h σ0 p a N zf lf) (hA : rwN p a N zf lf + 64 * (p + 2) ≤ 8192) (h1 : 1 ≤ j) (hj : j < p) (eb : ∀ σ, OWi σ0 σ c → f_M_beginning F m (nI o) (nI i) (mh m h σ) = some (lN P, mh m h σ)) (hP : 0 < zf j → o + P + zf j ≤ 65536) : ∀ (d k f : Nat) (σ : px_S), k + d = zf j → d < f → OWi σ0 σ c → Sm m h (fun σ' => OWi σ0 σ' c) Any (f_M_mergedSection_67 F f m (nI j) (nI o) (nI i) (nI k) (mh m h σ)) := by
  have hp := hS.1
  have b1 := (rwN_b hS).1
  have b2 := plN_m (sz := szF p a zf) (show j + 1 ≤ p + 1 by omega)
  have b3 := plN_in (sz := szF p a zf) h1
  rw [show szF p a zf j = zf j from if_pos hj] at b3
  intro d
  induction d with
  | zero =>
    intro k f σ hk hf hI
    obtain ⟨f, rfl⟩ : ∃ y, f = y + 1 := ⟨f - 1, by omega⟩
    unfold f_M_mergedSection_67 f_M_mergedSection_113
    rw [e_o hm, bs, hS.2.2.2.2.2.2 σ c j hI h1 hj, xb_mk, if_pos (nI_le (by omega) (by omega))]
    exact sm_r any hI
  | succ d ih =>
    intro k f σ hk hf hI
    obtain ⟨f, rfl⟩ : ∃ y, f = y + 1 := ⟨f - 1, by omega⟩
    have hP' := hP (by omega)
    unfold f_M_mergedSection_67
    rw [e_o hm, bs, hS.2.2.2.2.2.2 σ c j hI h1 hj, xb_mk, if_neg (nI_ge (by omega) (by omega)), Mr3 hm, bs, e_o hm, bs, q_pl hm hF hS hI h1 (by omega), xb_mk, Mr6 hm, bs, e_o hm, bs, eb σ hI, xb_mk, lN_i, nI_add, nI_add, Ma6 hm (by omega), bs, nI_add, nI_add]
    exact sm_w3 hm hI (by omega) (fun σ hi => ih _ _ _ (by omega) (by omega) hi)
theorem sm_msec (hm : m ≤ h.length) (hF : 65540 < F) (hk : MGk σ0 T tO tn tb dr xs od on R) (hS : MGs F m h σ0 p a N zf lf) (hA : rwN p a N zf lf + 64 * (p + 2) ≤ 8192) (h1 : 1 ≤ j) (hj : j < p) (hP : MPj σ0 T tb j t i) (ez : zf j = ptZ (tb t) i) (hI : OWi σ0 σ c) : Sm m h (fun σ' => OWi σ0 σ' c) Any (f_M_mergedSection F m (nI j) (mh m h σ)) := by
  have hp := hS.1
  have hpz := ptZ_b hk hP
  have b1 := (rwN_b hS).1
  obtain ⟨p1, p2, p3, p4, p5, p6⟩ := MPj_w hP hI
  have hb := MGk_o (MGk_w hk hI) p1
  unfold f_M_mergedSection
  rw [Mr120 hm, bs, Ma120 hm (by omega), bs, p4, e_o hm, bs, O_obj hm hb, xb_mk, Mr121 hm, bs, Ma121 hm (by omega), bs, p5, e_o hm, bs, O_type hm (by omega) hb p3, xb_mk, e_o hm, bs, O_size hm (by omega) hb p3, xb_mk, e_o hm, bs, O_align hm (by omega) hb p3, xb_mk]
  refine sm_o hm (fun _ => sm_x (sm_rows hm hF hS hA h1 (by omega) hI) (fun _ σ _ hi => ?_))
  have hb := MGk_o (MGk_w hk hi) p1
  rw [e_o hm, bs, q_row8 hm hF hS hi, xb_mk, e_o hm, bs, O_flags hm (by omega) hb p3, xb_mk, nI_add]
  have hle : rwN p a N zf lf + 64 * j + 8 + 8 ≤ 65536 := by omega
  refine sm_put hm hF hi hle (fun σ hi => ?_)
  exact sm_ms67 hm hF hS hA h1 hj (fun σ hi => O_beg hm (by omega) (MGk_o (MGk_w hk hi) p1) p3) (by rw [ez]; exact hpz.2) (zf j) 0 F σ (Nat.zero_add _) (by have := hS.2.2.2.2.2.1 j; omega) hi
theorem sm_mt117 (hm : m ≤ h.length) (hF : 65540 < F) (hW : WP T tb dr xs) (hk : MGk σ0 T tO tn tb dr xs od on R) (hS : MGs F m h σ0 p a N zf lf) (hA : rwN p a N zf lf + 64 * (p + 2) ≤ 8192) (h1 : 1 ≤ j) (hj : j < p) (ht : t < T) (i1 : 1 ≤ i) (iS : i < oS (tb t)) (hs : isS (tb t) i = true) (ez : 24 * sN (tb t) i ≤ zf j) : ∀ (d k f : Nat) (σ : px_S), k + d = sN (tb t) i → d < f → OWi σ0 σ c → Sm m h (fun σ' => OWi σ0 σ' c) Any (f_M_mergedSites_117 F f m (nI j) (nI t) (nI (tO t)) (nI i) (nI k) (mh m h σ)) := by
  have hp := hS.1
  have b1 := (rwN_b hS).1
  have b2 := plN_m (sz := szF p a zf) (show j + 1 ≤ p + 1 by omega)
  have b3 := plN_in (sz := szF p a zf) h1
  rw [show szF p a zf j = zf j from if_pos hj] at b3
  have hzb := hS.2.2.2.2.2.1 j
  have hT := hW.1
  intro d
  induction d with
  | zero =>
    intro k f σ hkk hf hI
    obtain ⟨f, rfl⟩ : ∃ y, f = y + 1 := ⟨f - 1, by omega⟩
    have hb := MGk_o (MGk_w hk hI) ht
    unfold f_M_mergedSites_117 f_M_mergedSites_222
    rw [e_o hm, bs, O_sN hm (by omega) hb i1 iS hs, xb_mk, if_pos (nI_le (by omega) (by omega))]
    exact sm_r any hI
  | succ d ih =>
    intro k f σ hkk hf hI
    obtain ⟨f, rfl⟩ : ∃ y, f = y + 1 := ⟨f - 1, by omega⟩
    have hk1 := MGk_w hk hI
    have hb := MGk_o hk1 ht
    have hkN : k < sN (tb t) i := by omega
    have hsp := OB_sP hb i1 iS hs hkN
    have hok := (sOK_0w ((eSit_0 hb.2.2.2.1 i1 iS hs).2.2.2.2.2 k hkN)).2.1
    have hM := w2_M (OB_w hb)
    have fin : ∀ {v : Int64}, Sm m h (fun σ' => OWi σ0 σ' c) Any (f_M_mergedSites_212 F (f_M_mergedSites_117 F f) m (nI j) (nI t) (nI (tO t)) (nI i) (nI k) m (nI (plN (szF p a zf) j + 24 * k + 12)) v (mh m h σ)) := fun {v} => by
      unfold f_M_mergedSites_212
      rw [nI_add]
      have hle : plN (szF p a zf) j + 24 * k + 12 + 4 ≤ 65536 := by
        generalize plN (szF p a zf) j = x1 at *
        generalize plN (szF p a zf) (j + 1) = x2 at *
        generalize plN (szF p a zf) (p + 1) = x3 at *
        generalize sN (tb t) i = x4 at *
        omega
      exact sm_put hm hF hI hle (fun σ hi => ih _ _ _ (by omega) (by omega) hi)
    unfold f_M_mergedSites_117
    rw [e_o hm, bs, O_sN hm (by omega) hb i1 iS hs, xb_mk, if_neg (nI_ge (by omega) (by omega)), e_o hm, bs, O_site hm (by omega) hb iS, xb_mk, e_o hm, bs, nI_add, O_sY hm (by omega) hb hsp, xb_mk, lN_i, e_o hm, bs, q_pl hm hF hS hI h1 (by omega), xb_mk, show nI 24 * nI k = nI (24 * k) from (Int32.ofNat_mul _ _).symm, nI_add, nI_add]
    by_cases c0 : sY (tb t) i k = 0
    · rw [if_pos (by rw [c0]; rfl)]
      exact fin
    · rw [if_neg (nI_nz (by omega) c0), e_o hm, bs, O_bind hm (by omega) hb hok, xb_mk]
      by_cases c1 : yB (tb t) (sY (tb t) i k) = 0
      · rw [if_pos (by rw [c1]; rfl), Mr118 hm, bs, show nI 64 * nI t = nI (64 * t) from (Int32.ofNat_mul _ _).symm, nI_add, Ma118 hm (by omega), bs]
        exact fin
      · have hyB : yB (tb t) (sY (tb t) i k) < 2 ^ 31 := by
          have := OB_y hb (by omega) hok
          unfold yOK at this
          have := (of_decide_eq_true this).1
          omega
        rw [if_neg (nI_nz hyB c1), Mr119 hm, bs, e_o hm, bs, O_name hm (by omega) hb hk1.1.2.2 (by omega) hok c1, xb_mk]
        have hmem := hW.2.2.2.1 t _ ht (show 1 ≤ sY (tb t) i k by omega) hok c1
        have hx : xs.length ≤ 4096 := by have := hk1.1.2.2.1.2.1; rw [List.length_map] at this; exact this
        cases e : idx (yT (tb t) (sY (tb t) i k)) 0 (xs.map Prod.fst) with
        | none =>
          have := idx_iff.mpr hmem
          rw [e] at this
          cases this
        | some q =>
          have hq := (idx_lt e).2
          rw [List.length_map, Nat.zero_add] at hq
          rw [show tdA (some q) = nI q from rfl, Ma119 hm (by omega), bs]
          exact fin
theorem sm_mt67 {o P t1 : Nat} (hm : m ≤ h.length) (hF : 65540 < F) (hS : MGs F m h σ0 p a N zf lf) (hA : rwN p a N zf lf + 64 * (p + 2) ≤ 8192) (h1 : 1 ≤ j) (hj : j < p) (eb : ∀ σ, OWi σ0 σ c → f_M_beginning F m (nI o) (nI i) (mh m h σ) = some (lN P, mh m h σ)) (hP : 0 < zf j → o + P + zf j ≤ 65536) (hK : ∀ σ, OWi σ0 σ c → Sm m h (fun σ' => OWi σ0 σ' c) Any (f_M_mergedSites_114 F m (nI j) (nI t1) (nI o) (nI i) (mh m h σ))) : ∀ (d k f : Nat) (σ : px_S), k + d = zf j → d < f → OWi σ0 σ c → Sm m h (fun σ' => OWi σ0 σ' c) Any (f_M_mergedSites_67 F f m (nI j) (nI t1) (nI o) (nI i) (nI k) (mh m h σ)) := by
  have hp := hS.1
  have b1 := (rwN_b hS).1
  have b2 := plN_m (sz := szF p a zf) (show j + 1 ≤ p + 1 by omega)
  have b3 := plN_in (sz := szF p a zf) h1
  rw [show szF p a zf j = zf j from if_pos hj] at b3
  intro d
  induction d with
  | zero =>
    intro k f σ hk hf hI
    obtain ⟨f, rfl⟩ : ∃ y, f = y + 1 := ⟨f - 1, by omega⟩
    unfold f_M_mergedSites_67
    rw [e_o hm, bs, hS.2.2.2.2.2.2 σ c j hI h1 hj, xb_mk, if_pos (nI_le (by omega) (by omega))]
    exact hK σ hI
  | succ d ih =>
    intro k f σ hk hf hI
    obtain ⟨f, rfl⟩ : ∃ y, f = y + 1 := ⟨f - 1, by omega⟩
    have hP' := hP (by omega)
    unfold f_M_mergedSites_67
    rw [e_o hm, bs, hS.2.2.2.2.2.2 σ c j hI h1 hj, xb_mk, if_neg (nI_ge (by omega) (by omega)), Mr3 hm, bs, e_o hm, bs, q_pl hm hF hS hI h1 (by omega), xb_mk, Mr6 hm, bs, e_o hm, bs, eb σ hI, xb_mk, lN_i, nI_add, nI_add, Ma6 hm (by omega), bs, nI_add, nI_add]
    exact sm_w3 hm hI (by omega) (fun σ hi => ih _ _ _ (by omega) (by omega) hi)
theorem sm_msit (hm : m ≤ h.length) (hF : 65540 < F) (hW : WP T tb dr xs) (hk : MGk σ0 T tO tn tb dr xs od on R) (hS : MGs F m h σ0 p a N zf lf) (hA : rwN p a N zf lf + 64 * (p + 2) ≤ 8192) (h1 : 1 ≤ j) (hj : j < p) (hP : MPj σ0 T tb j t i) (ez : zf j = ptZ (tb t) i) (h4 : oT (tb t) i = 4) (hI : OWi σ0 σ c) : Sm m h (fun σ' => OWi σ0 σ' c) Any (f_M_mergedSites F m (nI j) (mh m h σ)) := by
  have hp := hS.1
  have hpz := ptZ_b hk hP
  have hT := hW.1
  obtain ⟨p1, p2, p3, p4, p5, p6⟩ := MPj_w hP hI
  have hs : isS (tb t) i = true := by
    rcases p6 with p6 | p6
    · unfold oK at p6
      rcases (of_decide_eq_true p6).1 with e | e <;> (rw [h4] at e; cases e)
    · exact p6
  have hb := MGk_o (MGk_w hk hI) p1
  have hIs := (eSit_0 hb.2.2.2.1 p2 p3 hs).1
  have h24 := (OB_w hb).1.2.1.2
  have hzN : ptZ (tb t) i = oZ (tb t) i := by unfold ptZ; rw [if_neg (by rw [h4]; decide)]
  have hsn : 24 * sN (tb t) i ≤ zf j := by rw [ez, hzN]; unfold sN; omega
  have hi24 : 24 * t + oI (tb t) i < 1536 := by omega
  unfold f_M_mergedSites
  rw [Mr120 hm, bs, Ma120 hm (by omega), bs, p4, e_o hm, bs, O_obj hm hb, xb_mk, Mr121 hm, bs, Ma121 hm (by omega), bs, p5, e_o hm, bs, O_size hm (by omega) hb p3, xb_mk, Mg123 hm, bs, Mr117 hm, bs, e_o hm, bs, O_info hm (by omega) hb p3, xb_mk, lN_i, show nI 24 * nI t = nI (24 * t) from (Int32.ofNat_mul _ _).symm, nI_add, Ma117 hm hi24, bs]
  refine sm_o hm (fun _ => sm_x (sm_rows hm hF hS hA h1 (by omega) hI) (fun _ σ _ hi => ?_))
  refine sm_mt67 hm hF hS hA h1 hj (fun σ hi => O_beg hm (by omega) (MGk_o (MGk_w hk hi) p1) p3) (by rw [ez]; exact hpz.2) (fun σ hi => ?_) (zf j) 0 F σ (Nat.zero_add _) (by have := hS.2.2.2.2.2.1 j; omega) hi
  unfold f_M_mergedSites_114
  have hzb := hS.2.2.2.2.2.1 j
  exact sm_mt117 hm hF hW hk hS hA h1 hj p1 p2 p3 hs hsn (sN (tb t) i) 0 F σ (Nat.zero_add _) (by omega) hi
end MSE
end
section
/-! the reference merges: symbols and names (steps spelled out by sf/pp.py) -/
section MMS
variable {F m T : Nat} {h : px_H} {σ0 σ : px_S} {tO tn : Nat → Nat} {tb : Nat → Nat → Nat} {dr : Nat → Bool} {xs : px_NL} {od : List Nat} {on : Bool} {R : Nat → Bool} {p a N c j t i : Nat} {zf lf : Nat → Nat}
theorem sm_ml18 {k2 : Nat → Int32 → px_H → Option (Unit × px_H)} (hm : m ≤ h.length) (hF : 65540 < F) (hT : T ≤ 64) (hk : MGk σ0 T tO tn tb dr xs od on R) (hS : MGs F m h σ0 p a N zf lf) (hA : rwN p a N zf lf + 64 * (p + 2) ≤ 8192) (hL : MLo σ0 tb T 0 a) (ht : t < T) (hK : ∀ σ, OWi σ0 σ c → Sm m h (fun σ' => OWi σ0 σ' c) Any (k2 m (nI (t + 1)) (mh m h σ))) : ∀ (d k f : Nat) (σ : px_S), k + d = pkM (oM (tb t)) → 1 ≤ k → d < f → OWi σ0 σ c → Sm m h (fun σ' => OWi σ0 σ' c) Any (f_M_mergedLocals_18 F k2 f m (nI t) (nI (tO t)) (nI k) (mh m h σ)) := by
  have ha := hS.1.2.2.1
  have hM := w2_M (OB_w (MGk_o hk ht))
  obtain ⟨m1, m2, m3⟩ := pkM_1 (oM (tb t))
  have hMx : pkM (oM (tb t)) ≤ 64 := by unfold pkM; split <;> omega
  intro d
  induction d with
  | zero =>
    intro k f σ hkk h1 hf hI
    obtain ⟨f, rfl⟩ : ∃ y, f = y + 1 := ⟨f - 1, by omega⟩
    have hb := MGk_o (MGk_w hk hI) ht
    unfold f_M_mergedLocals_18 f_M_mergedLocals_195
    rw [e_o hm, bs, O_many hm (by omega) hb, xb_mk, if_pos (nI_le (by omega) (by omega)), nI_add]
    exact hK σ hI
  | succ d ih =>
    intro k f σ hkk h1 hf hI
    obtain ⟨f, rfl⟩ : ∃ y, f = y + 1 := ⟨f - 1, by omega⟩
    have hk1 := MGk_w hk hI
    have hb := MGk_o hk1 ht
    have hkM := m3 k h1 (by omega)
    have hyo := OB_y hb h1 hkM
    unfold yOK at hyo
    have hyo := of_decide_eq_true hyo
    have hyB : yB (tb t) k < 2 ^ 31 := by omega
    have h24 := (OB_w hb).1.2.1.2
    have hyW : yW (tb t) k < 2 ^ 31 := by rcases hyo.2.1 with e | e | e | e <;> omega
    have hn := hb.2.2.1
    have hyP := w2_y (OB_w hb) hkM
    have go := fun σ hi => ih (k + 1) f σ (by omega) (by omega) (by omega) hi
    unfold f_M_mergedLocals_18 f_M_mergedLocals_189
    rw [e_o hm, bs, O_many hm (by omega) hb, xb_mk, if_neg (nI_ge (by omega) (by omega)), e_o hm, bs, O_bind hm (by omega) hb hkM, xb_mk, nI_add]
    by_cases c0 : yB (tb t) k = 0
    · obtain ⟨v, v1, v2⟩ := hL t k (Or.inl ht) h1 hkM c0
      have e118 : gA σ 118 (64 * t + k) = nI v := by rw [hI.1.2.2.1 118 (by decide)]; exact v2
      have f180 : ∀ {s2 s3 : Int32} {s4 : Int64}, Sm m h (fun σ' => OWi σ0 σ' c) Any (f_M_mergedLocals_180 F k2 (f_M_mergedLocals_18 F k2 f) m (nI t) (nI (tO t)) (nI k) m (nI v) s2 s3 s4 (mh m h σ)) := fun {s2 s3 s4} => by
        unfold f_M_mergedLocals_180 f_M_mergedLocals_189
        rw [e_o hm, bs, O_ysize hm (by omega) hb hkM, xb_mk, nI_add]
        exact sm_o hm (fun _ => sm_x (sm_mgsy hm hF hS hA (by omega) hI) (fun _ σ _ hi => go σ hi))
      have f174 : ∀ {s2 s3 : Int32}, Sm m h (fun σ' => OWi σ0 σ' c) Any (f_M_mergedLocals_174 F k2 (f_M_mergedLocals_18 F k2 f) m (nI t) (nI (tO t)) (nI k) m (nI v) s2 s3 (mh m h σ)) := fun {s2 s3} => by
        unfold f_M_mergedLocals_174
        rw [e_o hm, bs, O_value hm (by omega) hb hkM, xb_mk]
        exact f180
      have f86 : ∀ {a5 s0 : Int32}, (a5 = 0 ∧ s0 = 0) ∨ yW (tb t) k < 24 → Sm m h (fun σ' => OWi σ0 σ' c) Any (f_M_mergedLocals_86 F k2 (f_M_mergedLocals_18 F k2 f) m (nI t) (nI (tO t)) (nI k) (nI (yW (tb t) k)) a5 s0 (mh m h σ)) := fun {a5 s0} hw => by
        unfold f_M_mergedLocals_86 f_M_mergedLocals_150
        rw [Mr118 hm, bs, show nI 64 * nI t = nI (64 * t) from (Int32.ofNat_mul _ _).symm, nI_add, Ma118 hm (by omega), bs, e118, Mr6 hm, bs, e_o hm, bs, O_sym hm (by omega) hb, xb_mk, nI_add, Ma6 hm (by omega), bs, show nI 24 * nI t = nI (24 * t) from (Int32.ofNat_mul _ _).symm, nI_add]
        rcases hw with ⟨w1, w2⟩ | w
        · rw [if_pos w2, if_pos w1, if_pos w2]
          exact f174
        · have hix : 24 * t + yW (tb t) k < 1536 := by omega
          refine sm_i (fun c1 => ?_) (fun c1 => ?_)
          · refine sm_i (fun _ => ?_) (fun _ => ?_)
            · rw [if_pos c1]
              exact f174
            · rw [Mr117 hm, bs, Ma117 hm hix, bs, if_pos c1]
              exact f174
          · rw [if_neg c1, Mr65 hm, bs, Ma65 hm hix, bs]
            exact sm_i (fun _ => f174) (fun _ => f180)
      have f63 : Sm m h (fun σ' => OWi σ0 σ' c) Any (f_M_mergedLocals_63 F k2 (f_M_mergedLocals_18 F k2 f) m (nI t) (nI (tO t)) (nI k) (nI (yW (tb t) k)) (mh m h σ)) := by
        unfold f_M_mergedLocals_63 f_M_mergedLocals_64 f_M_mergedLocals_85
        rw [if_pos (show nI 0 = 0 from rfl)]
        exact f86 (Or.inl ⟨rfl, rfl⟩)
      rw [if_pos (by rw [c0]; rfl), e_o hm, bs, O_where hm (by omega) hb hkM, xb_mk]
      refine sm_i (fun _ => f63) (fun w0 => sm_i (fun _ => f63) (fun w1 => ?_))
      have w24 : yW (tb t) k < 24 := Nat.lt_of_not_le (fun q => w1 (nI_le q hyW))
      have w1' : 0 < yW (tb t) k := by
        apply Nat.pos_of_ne_zero
        intro q
        apply w0
        rw [q]
        decide
      have wS : yW (tb t) k < oS (tb t) := by rcases hyo.2.1 with e | e | e | e <;> omega
      unfold f_M_mergedLocals_64 f_M_mergedLocals_85
      rw [if_neg (show ¬ nI 1 = 0 by decide), e_o hm, bs, q_stays hm (by omega) hb hk1.1.2.1 hk1.2.1 wS, xb_mk]
      exact sm_i (fun _ => f86 (Or.inr w24)) (fun _ => f86 (Or.inr w24))
    · rw [if_neg (nI_nz hyB c0)]
      exact go σ hI
theorem sm_ml2 (hm : m ≤ h.length) (hF : 65540 < F) (hT : T ≤ 64) (hk : MGk σ0 T tO tn tb dr xs od on R) (hS : MGs F m h σ0 p a N zf lf) (hA : rwN p a N zf lf + 64 * (p + 2) ≤ 8192) (hL : MLo σ0 tb T 0 a) : ∀ (d t f : Nat) (σ : px_S), t + d = T → d < f → OWi σ0 σ c → Sm m h (fun σ' => OWi σ0 σ' c) Any (f_M_mergedLocals_2 F f m (nI t) (mh m h σ)) := by
  intro d
  induction d with
  | zero =>
    intro t f σ ht hf hI
    obtain ⟨f, rfl⟩ : ∃ y, f = y + 1 := ⟨f - 1, by omega⟩
    unfold f_M_mergedLocals_2 f_M_mergedLocals_201
    rw [Mg14 hm, bs, (MGk_w hk hI).2.2.2, if_pos (nI_le (by omega) (by omega))]
    exact sm_r any hI
  | succ d ih =>
    intro t f σ ht hf hI
    obtain ⟨f, rfl⟩ : ∃ y, f = y + 1 := ⟨f - 1, by omega⟩
    have hk1 := MGk_w hk hI
    have hb := MGk_o hk1 (show t < T by omega)
    have hM := w2_M (OB_w hb)
    obtain ⟨m1, m2, m3⟩ := pkM_1 (oM (tb t))
    have hMx : pkM (oM (tb t)) ≤ 64 := by unfold pkM; split <;> omega
    unfold f_M_mergedLocals_2
    rw [Mg14 hm, bs, hk1.2.2.2, if_neg (nI_ge (by omega) (by omega)), e_o hm, bs, O_obj hm hb, xb_mk]
    exact sm_ml18 hm hF hT hk hS hA hL (by omega) (fun σ hi => ih _ _ _ (by omega) (by omega) hi) (pkM (oM (tb t)) - 1) 1 F σ (by omega) (Nat.le_refl _) (by omega) hI
theorem sm_mdef {k s : Nat} (hm : m ≤ h.length) (hF : 65540 < F) (hT : T ≤ 64) (hk : MGk σ0 T tO tn tb dr xs od on R) (hS : MGs F m h σ0 p a N zf lf) (hA : rwN p a N zf lf + 64 * (p + 2) ≤ 8192) (hk64 : k ≤ 64) (ht : t < T) (h1 : 1 ≤ s) (hs : s < oM (tb t)) (hw : yW (tb t) s ≠ 65522) (hI : OWi σ0 σ c) : Sm m h (fun σ' => OWi σ0 σ' c) Any (f_M_mergedDefinition F m (nI k) (nI t) (nI s) (mh m h σ)) := by
  have hb := MGk_o (MGk_w hk hI) ht
  have hyo := OB_y hb h1 hs
  unfold yOK at hyo
  have hyo := of_decide_eq_true hyo
  have h24 := (OB_w hb).1.2.1.2
  have hn := hb.2.2.1
  have hyP := w2_y (OB_w hb) hs
  have fin : ∀ {s2 s3 : Int32}, Sm m h (fun σ' => OWi σ0 σ' c) Any (f_M_mergedDefinition_62 F m (nI s) (nI (tO t)) m (nI k) s2 s3 (mh m h σ)) := fun {s2 s3} => by
    unfold f_M_mergedDefinition_62
    rw [e_o hm, bs, O_value hm (by omega) hb hs, xb_mk, e_o hm, bs, O_ysize hm (by omega) hb hs, xb_mk]
    exact sm_o hm (fun _ => sm_x (sm_mgsy hm hF hS hA hk64 hI) (fun _ σ _ hi => sm_r any hi))
  unfold f_M_mergedDefinition
  rw [e_o hm, bs, O_obj hm hb, xb_mk, e_o hm, bs, O_where hm (by omega) hb hs, xb_mk, Mr6 hm, bs, e_o hm, bs, O_sym hm (by omega) hb, xb_mk, nI_add, Ma6 hm (by omega), bs]
  refine sm_i (fun _ => fin) (fun c1 => ?_)
  have hix : 24 * t + yW (tb t) s < 1536 := by
    have : yW (tb t) s ≠ 65521 := fun q => c1 (by rw [q]; rfl)
    rcases hyo.2.1 with e | e | e | e <;> omega
  rw [Mr117 hm, bs, show nI 24 * nI t = nI (24 * t) from (Int32.ofNat_mul _ _).symm, nI_add, Ma117 hm hix, bs]
  exact fin
theorem sm_mn173 {k7 : Nat → Int32 → Int32 → px_H → Option (Unit × px_H)} {x k n : Nat} (hm : m ≤ h.length) (hF : 65540 < F) (hS : MGs F m h σ0 p a N zf lf) (hA : rwN p a N zf lf + 64 * (p + 2) ≤ 8192) (hn : n < N) (hx : x ≤ 2000) (hK : ∀ σ, OWi σ0 σ c → Sm m h (fun σ' => OWi σ0 σ' c) Any (k7 m (nI (x + (lf n + 1))) (nI (k + 1)) (mh m h σ))) : ∀ (d i f : Nat) (σ : px_S), i + d = lf n → d < f → OWi σ0 σ c → Sm m h (fun σ' => OWi σ0 σ' c) Any (f_M_mergedNames_173 F k7 f m (nI x) (nI k) (nI n) (nI i) (mh m h σ)) := by
  have hp := hS.1
  obtain ⟨e22, hl⟩ := hS.2.2.2.2.1 n hn
  have b1 := (rwN_b hS).1
  intro d
  induction d with
  | zero =>
    intro i f σ hi hf hI
    obtain ⟨f, rfl⟩ : ∃ y, f = y + 1 := ⟨f - 1, by omega⟩
    unfold f_M_mergedNames_173 f_M_mergedNames_222
    rw [Mr22 hm, bs, Ma22 hm (by omega), bs, hI.1.2.2.1 22 (by decide), e22, if_pos (nI_le (by omega) (by omega)), bs, Ma22 hm (by omega), bs, hI.1.2.2.1 22 (by decide), e22, nI_add, nI_add, nI_add]
    exact hK σ hI
  | succ d ih =>
    intro i f σ hi hf hI
    obtain ⟨f, rfl⟩ : ∃ y, f = y + 1 := ⟨f - 1, by omega⟩
    unfold f_M_mergedNames_173
    rw [Mr22 hm, bs, Ma22 hm (by omega), bs, hI.1.2.2.1 22 (by decide), e22, if_neg (nI_ge (by omega) (by omega)), Mr3 hm, bs, Mg123 hm, bs, hI.1.1 123 (by decide), hS.2.1, nI_add, e_o hm, bs, q_pl hm hF hS hI (by omega) (by omega), xb_mk, Mr21 hm, bs, show nI 20 * nI n = nI (20 * n) from (Int32.ofNat_mul _ _).symm, nI_add, Ma21 hm (by omega), bs, nI_add, nI_add, nI_add]
    exact sm_w3 hm hI (by omega) (fun σ hi => ih _ _ _ (by omega) (by omega) hi)
theorem sm_mn150 {k7 : Nat → Int32 → Int32 → px_H → Option (Unit × px_H)} {x k n : Nat} (hm : m ≤ h.length) (hF : 65540 < F) (hS : MGs F m h σ0 p a N zf lf) (hA : rwN p a N zf lf + 64 * (p + 2) ≤ 8192) (hn : n < N) (hx : x ≤ 2000) (hk : k ≤ 64) (hK : ∀ σ, OWi σ0 σ c → Sm m h (fun σ' => OWi σ0 σ' c) Any (k7 m (nI (x + (lf n + 1))) (nI (k + 1)) (mh m h σ))) (hI : OWi σ0 σ c) : Sm m h (fun σ' => OWi σ0 σ' c) Any (f_M_mergedNames_150 F k7 m (nI x) (nI k) (nI n) (mh m h σ)) := by
  have hp := hS.1
  have hl := (hS.2.2.2.2.1 n hn).2
  have b1 := (rwN_b hS).1
  have b2 := plN_m (sz := szF p a zf) (show p ≤ p + 1 by omega)
  unfold f_M_mergedNames_150
  rw [Mg123 hm, bs, hI.1.1 123 (by decide), hS.2.1, e_o hm, bs, q_pl hm hF hS hI hp.1 (by omega), xb_mk, show nI 24 * nI k = nI (24 * k) from (Int32.ofNat_mul _ _).symm, nI_add]
  refine sm_put hm hF hI (by omega) (fun σ hi => ?_)
  exact sm_mn173 hm hF hS hA hn hx hK (lf n) 0 F σ (Nat.zero_add _) (by omega) hi
theorem sm_mn7 {f0 : Nat} (hm : m ≤ h.length) (hF : 65540 < F) (hW : WP T tb dr xs) (hk : MGk σ0 T tO tn tb dr xs od on R) (hS : MGs F m h σ0 p a xs.length zf lf) (hA : rwN p a xs.length zf lf + 64 * (p + 2) ≤ 8192) (hN : MNl σ0 xs.length f0 a) : ∀ (d k f x : Nat) (σ : px_S), k + d = a → f0 ≤ k → d < f → x ≤ 1 + 21 * k → OWi σ0 σ c → Sm m h (fun σ' => OWi σ0 σ' c) Any (f_M_mergedNames_7 F f m (nI x) (nI k) (mh m h σ)) := by
  have hp := hS.1
  intro d
  induction d with
  | zero =>
    intro k f x σ hkk hf0 hf hx hI
    obtain ⟨f, rfl⟩ : ∃ y, f = y + 1 := ⟨f - 1, by omega⟩
    unfold f_M_mergedNames_7 f_M_mergedNames_239
    rw [Mg125 hm, bs, hI.1.1 125 (by decide), hS.2.2.1, if_pos (nI_le (by omega) (by omega))]
    exact sm_r any hI
  | succ d ih =>
    intro k f x σ hkk hf0 hf hx hI
    obtain ⟨f, rfl⟩ : ∃ y, f = y + 1 := ⟨f - 1, by omega⟩
    have hk1 := MGk_w hk hI
    obtain ⟨n, hn, e122⟩ := hN.2 k hf0 (by omega) (by omega)
    have hxn : xs[n]? = some xs[n] := List.getElem?_eq_getElem hn
    obtain ⟨y, ey⟩ : ∃ y, y = xs[n] := ⟨_, rfl⟩
    rw [← ey] at hxn
    have hrec := hk1.1.2.2.2 n y hxn
    have hst := (hW.2.1 n y hxn).1
    have hby := hW.2.2.1 n y hxn
    have e23 := hrec.1
    have hl := (hS.2.2.2.2.1 n hn).2
    have go : ∀ σ, OWi σ0 σ c → Sm m h (fun σ' => OWi σ0 σ' c) Any (f_M_mergedNames_7 F f m (nI (x + (lf n + 1))) (nI (k + 1)) (mh m h σ)) := fun σ hi => ih (k + 1) f _ σ (by omega) (by omega) (by omega) (by omega) hi
    have fin : ∀ σ, OWi σ0 σ c → Sm m h (fun σ' => OWi σ0 σ' c) Any (f_M_mergedNames_150 F (f_M_mergedNames_7 F f) m (nI x) (nI k) (nI n) (mh m h σ)) := fun σ hi => sm_mn150 hm hF hS hA hn (by omega) (by omega) go hi
    have f78 : Sm m h (fun σ' => OWi σ0 σ' c) Any (f_M_mergedNames_78 F (f_M_mergedNames_7 F f) m (nI x) (nI k) (nI n) (mh m h σ)) := by
      unfold f_M_mergedNames_78 f_M_mergedNames_96
      rw [Mr28 hm, bs, Ma28 hm (by omega), bs]
      refine sm_i (fun _ => ?_) (fun _ => ?_)
      · exact sm_o hm (fun _ => sm_x (sm_mgsy hm hF hS hA (by omega) hI) (fun _ σ _ hi => fin σ hi))
      · exact sm_o hm (fun _ => sm_x (sm_mgsy hm hF hS hA (by omega) hI) (fun _ σ _ hi => fin σ hi))
    unfold f_M_mergedNames_7
    rw [Mg125 hm, bs, hI.1.1 125 (by decide), hS.2.2.1, if_neg (nI_ge (by omega) (by omega)), Mr122 hm, bs, Ma122 hm (by omega), bs, hI.1.2.2.1 122 (by decide), e122, Mr23 hm, bs, Ma23 hm (by omega), bs, e23]
    refine sm_i (fun _ => ?_) (fun c2 => ?_)
    · rw [Mr27 hm, bs, Ma27 hm (by omega), bs, Mr26 hm, bs, Ma26 hm (by omega), bs]
      exact sm_o hm (fun _ => sm_x (sm_mgsy hm hF hS hA (by omega) hI) (fun _ σ _ hi => fin σ hi))
    · rw [bs, Ma23 hm (by omega), bs, e23]
      refine sm_i (fun _ => f78) (fun c0 => ?_)
      rw [bs, Ma23 hm (by omega), bs, e23]
      refine sm_i (fun _ => f78) (fun c4 => ?_)
      have s2 : y.2.1 ≠ 2 := fun q => c2 (by rw [q])
      have s0 : y.2.1 ≠ 0 := fun q => c0 (by rw [q]; rfl)
      have s4 : y.2.1 ≠ 4 := fun q => c4 (by rw [q])
      have q := q_isGiven (F := F) hm hk1.1.2.2 hW.2.1 hxn (fun q hq => by
        unfold byP at hby
        rw [hq] at hby
        have := hby.1
        have := hW.1
        omega)
      rw [e_o hm, bs, q, xb_mk]
      refine sm_i (fun c5 => ?_) (fun _ => ?_)
      · cases hq : y.2.2.2.2.1 with
        | none =>
          exfalso
          unfold byP at hby
          rw [hq] at hby
          rw [hq] at c5
          have : y.2.1 = 3 := by
            have hby' : y.2.1 = 0 ∨ y.2.1 = 3 ∨ y.2.1 = 4 := hby
            rcases hby' with w | w | w
            · exact absurd w s0
            · exact w
            · exact absurd w s4
          rw [this] at c5
          exact absurd c5 (by decide)
        | some z =>
          unfold byP at hby
          rw [hq] at hby
          obtain ⟨b1, ⟨b2, b3⟩, b4, b5, b6, b7⟩ := hby
          have hr4 := hrec.2.2.2.1
          rw [hq] at hr4
          rw [Mr24 hm, bs, Ma24 hm (by omega), bs, hr4.1, Mr25 hm, bs, Ma25 hm (by omega), bs, hr4.2]
          refine sm_o hm (fun _ => sm_x (sm_mdef hm hF hW.1 hk hS hA (by omega) b1 b2 b3 (fun w => ?_) hI) (fun _ σ _ hi => fin σ hi))
          apply s2
          rw [← b5]
          unfold sOf wNo
          rw [w]
          rfl
      · rw [Mr30 hm, bs, Ma30 hm (by omega), bs]
        exact sm_o hm (fun _ => sm_x (sm_mgsy hm hF hS hA (by omega) hI) (fun _ σ _ hi => fin σ hi))
end MMS
end
section
/-! the reference merges (steps spelled out by sf/pp.py) -/
/-- what a merge changes behind its link -/
abbrev mgE (σ0 σ : px_S) : Prop := FR [0, 4, 123, 124, 125, 126] [] [3, 117, 118, 119, 120, 121, 122] [] σ0 σ ∧ OUo σ
section MMG
variable {F m T : Nat} {h : px_H} {σ0 σ : px_S} {tO tn : Nat → Nat} {tb : Nat → Nat → Nat} {dr : Nat → Bool} {xs : px_NL} {od : List Nat} {on : Bool} {R : Nat → Bool} {p a N c j t i f0 : Nat} {zf lf pt pi : Nat → Nat}
theorem sm_mg209 (hm : m ≤ h.length) (hF : 65540 < F) (hW : WP T tb dr xs) (hk : MGk σ0 T tO tn tb dr xs od on R) (hS : MGs F m h σ0 p a xs.length zf lf) (hA : rwN p a xs.length zf lf + 64 * (p + 2) ≤ 8192) (hL : MLo σ0 tb T 0 a) (hN : MNl σ0 xs.length f0 a) (hfa : f0 ≤ a) (hc : c ≤ 65536) (hI : OWi σ0 σ c) : Sm m h (OWe σ0) (fun v => v = nI 1) (f_M_merges_209 F m (mh m h σ)) := by
  have hp := hS.1
  have hT := hW.1
  unfold f_M_merges_209
  rw [Mg123 hm, bs, hI.1.1 123 (by decide), hS.2.1, Mg125 hm, bs, bs, Mg124 hm, bs]
  refine sm_o hm (fun _ => sm_x (sm_rows hm hF hS hA hp.1 (by omega) hI) (fun _ σ _ hi => ?_))
  rw [Mg123 hm, bs, hi.1.1 123 (by decide), hS.2.1, nI_add, e_o hm, bs, q_tx hm hF hS hi, xb_mk]
  refine sm_o hm (fun _ => sm_x (sm_rows hm hF hS hA (by omega) (by omega) hi) (fun _ σ _ hi => ?_))
  unfold f_M_mergedLocals f_M_mergedNames
  refine sm_o hm (fun _ => sm_x (sm_ml2 hm hF hT hk hS hA hL T 0 F σ (Nat.zero_add _) (by omega) hi) (fun _ σ _ hi => ?_))
  rw [e_o hm, bs, Mg124 hm, bs, hi.1.1 124 (by decide), hN.1]
  exact sm_x (sm_mn7 hm hF hW hk hS hA hN (a - f0) f0 F 1 σ (by omega) (Nat.le_refl _) (by omega) (by omega) hi) (fun _ σ _ hi => sm_r rfl ⟨c, hc, hi⟩)
theorem sm_mg171 (hm : m ≤ h.length) (hF : 65540 < F) (hW : WP T tb dr xs) (hk : MGk σ0 T tO tn tb dr xs od on R) (hS : MGs F m h σ0 p a xs.length zf lf) (hA : rwN p a xs.length zf lf + 64 * (p + 2) ≤ 8192) (hL : MLo σ0 tb T 0 a) (hN : MNl σ0 xs.length f0 a) (hfa : f0 ≤ a) (hc : c ≤ 65536) (hP : ∀ j, 1 ≤ j → j < p → MPj σ0 T tb j (pt j) (pi j) ∧ zf j = ptZ (tb (pt j)) (pi j)) : ∀ (d j f : Nat) (σ : px_S), j + d = p → 1 ≤ j → d < f → OWi σ0 σ c → Sm m h (OWe σ0) (fun v => v = nI 1) (f_M_merges_171 F f m (nI j) (mh m h σ)) := by
  have hp := hS.1
  intro d
  induction d with
  | zero =>
    intro j f σ hj h1 hf hI
    obtain ⟨f, rfl⟩ : ∃ y, f = y + 1 := ⟨f - 1, by omega⟩
    unfold f_M_merges_171
    rw [Mg123 hm, bs, hI.1.1 123 (by decide), hS.2.1, if_pos (nI_le (by omega) (by omega))]
    exact sm_mg209 hm hF hW hk hS hA hL hN hfa hc hI
  | succ d ih =>
    intro j f σ hj h1 hf hI
    obtain ⟨f, rfl⟩ : ∃ y, f = y + 1 := ⟨f - 1, by omega⟩
    obtain ⟨hPj, ez⟩ := hP j h1 (by omega)
    have q := q_isPart (F := F) (y := 4) hm (by omega) (MGk_w hk hI) (show j < 24 by omega) (by decide) (MPj_w hPj hI)
    unfold f_M_merges_171 f_M_merges_203
    rw [Mg123 hm, bs, hI.1.1 123 (by decide), hS.2.1, if_neg (nI_ge (by omega) (by omega)), e_o hm, bs, show (4 : Int64) = lN 4 from rfl, q, xb_mk, nI_add]
    by_cases e : oT (tb (pt j)) (pi j) = 4
    · rw [decide_eq_true e, if_neg (show ¬ bI true = 0 by decide)]
      exact sm_o hm (fun _ => sm_x (sm_msit hm hF hW hk hS hA h1 (by omega) hPj ez e hI) (fun _ σ _ hi => ih _ _ _ (by omega) (by omega) (by omega) hi))
    · rw [decide_eq_false e, if_pos (show bI false = 0 from rfl)]
      exact sm_o hm (fun _ => sm_x (sm_msec hm hF hk hS hA h1 (by omega) hPj ez hI) (fun _ σ _ hi => ih _ _ _ (by omega) (by omega) (by omega) hi))
theorem sm_mg66 (hm : m ≤ h.length) (hF : 65540 < F) (hW : WP T tb dr xs) (hk : MGk σ0 T tO tn tb dr xs od on R) (hS : MGs F m h σ0 p a xs.length zf lf) (hA : rwN p a xs.length zf lf + 64 * (p + 2) ≤ 8192) (hL : MLo σ0 tb T 0 a) (hN : MNl σ0 xs.length f0 a) (hfa : f0 ≤ a) (hP : ∀ j, 1 ≤ j → j < p → MPj σ0 T tb j (pt j) (pi j) ∧ zf j = ptZ (tb (pt j)) (pi j)) (hc : c ≤ 65536) {c0 : Nat} (hI : OWi σ0 σ c0) : Sm m h (OWe σ0) (fun v => v = nI 1) (f_M_merges_66 F m (nI c) (mh m h σ)) := by
  have hp := hS.1
  unfold f_M_merges_66
  refine sm_p4 hm hI (fun σ hi => ?_)
  refine sm_put (σ0 := σ0) (c := c) (q := 0) (n := 8) hm hF hi (by decide) (fun σ hi => ?_)
  refine sm_put (σ0 := σ0) (c := c) (q := 16) (n := 2) hm hF hi (by decide) (fun σ hi => ?_)
  refine sm_put (σ0 := σ0) (c := c) (q := 18) (n := 2) hm hF hi (by decide) (fun σ hi => ?_)
  refine sm_put (σ0 := σ0) (c := c) (q := 20) (n := 4) hm hF hi (by decide) (fun σ hi => ?_)
  rw [e_o hm, bs, q_row8 hm hF hS hi, xb_mk]
  refine sm_put (σ0 := σ0) (c := c) (q := 40) (n := 8) hm hF hi (by decide) (fun σ hi => ?_)
  refine sm_put (σ0 := σ0) (c := c) (q := 52) (n := 2) hm hF hi (by decide) (fun σ hi => ?_)
  refine sm_put (σ0 := σ0) (c := c) (q := 58) (n := 2) hm hF hi (by decide) (fun σ hi => ?_)
  rw [Mg123 hm, bs]
  refine sm_put (σ0 := σ0) (c := c) (q := 60) (n := 2) hm hF hi (by decide) (fun σ hi => ?_)
  rw [Mg123 hm, bs]
  refine sm_put (σ0 := σ0) (c := c) (q := 62) (n := 2) hm hF hi (by decide) (fun σ hi => ?_)
  exact sm_mg171 hm hF hW hk hS hA hL hN hfa hc hP (p - 1) 1 F σ (by omega) (Nat.le_refl _) (by omega) hi
theorem sm_mg48 {L : Nat} (hm : m ≤ h.length) (hL : L ≤ 65536) {I : px_S → Prop} (hK : ∀ σ, OWi σ0 σ c → Sm m h I (fun v => v = nI 1) (f_M_merges_66 F m (nI L) (mh m h σ))) : ∀ (d k f : Nat) (σ : px_S), k + d = L → d < f → OWi σ0 σ c → Sm m h I (fun v => v = nI 1) (f_M_merges_48 F f m (nI L) (nI k) (mh m h σ)) := by
  intro d
  induction d with
  | zero =>
    intro k f σ hk hf hI
    obtain ⟨f, rfl⟩ : ∃ y, f = y + 1 := ⟨f - 1, by omega⟩
    unfold f_M_merges_48
    rw [if_pos (nI_le (by omega) (by omega))]
    exact hK σ hI
  | succ d ih =>
    intro k f σ hk hf hI
    obtain ⟨f, rfl⟩ : ∃ y, f = y + 1 := ⟨f - 1, by omega⟩
    unfold f_M_merges_48
    rw [if_neg (nI_ge (by omega) (by omega)), Mr3 hm, bs, nI_add]
    exact sm_w3 hm hI (by omega) (fun σ hi => ih _ _ _ (by omega) (by omega) hi)
theorem sm_any {I : px_S → Prop} {α : Type} {V : α → Prop} {o : Option (α × px_H)} (w : Sm m h I V o) : Sm m h I Any o := by
  obtain ⟨v, σ', e, _, hi⟩ := w
  exact ⟨v, σ', e, any, hi⟩
theorem sm_merges (hm : m ≤ h.length) (hF : 65540 < F) (hW : WP T tb dr xs) (hod : ∀ d, d ∈ od → d < xs.length) (hk : MGk σ0 T tO tn tb dr xs od on R) (ho : OUo σ0) : Sm m h (mgE σ0) Any (f_M_merges F m (mh m h σ0)) := by
  have hT := hW.1
  unfold f_M_merges
  refine sm_o hm (fun _ => sm_x (sm_countParts hm hF hT hk) (fun _ σ1 _ hi1 => ?_))
  obtain ⟨f1, p, hPt⟩ := hi1
  have hk1 := MGk_g hk f1
  refine sm_o hm (fun _ => sm_x (sm_countSymbols hm hF hT hk1 hod) (fun _ σ2 _ hi2 => ?_))
  obtain ⟨f2, f0, a, hf1, hfa, ha, e125, hL, hN⟩ := hi2
  have hk2 := MGk_s hk1 f2
  have F2 : FR [0, 4, 123, 124, 125, 126] [] [3, 117, 118, 119, 120, 121, 122] [] σ0 σ2 := FR_trans (FR_mono f1 (by decide) (by decide) (by decide) (by decide)) (FR_mono f2 (by decide) (by decide) (by decide) (by decide))
  have ho2 : OUo σ2 := OUo_FR (OUo_FR ho f1 (by decide) (by decide)) f2 (by decide) (by decide)
  have non : ∀ {v : Int32}, Sm m h (mgE σ0) Any (some (v, mh m h σ2)) := sm_r any ⟨F2, ho2⟩
  obtain ⟨p1, p2, e123, ⟨z, e126⟩, hJ⟩ := hPt
  have g123 : gI σ2 123 = nI p := (f2.1 123 (by decide)).trans e123
  rw [Mg126 hm, bs, (f2.1 126 (by decide)).trans e126]
  unfold f_M_merges_24
  refine sm_i (fun _ => ?_) (fun _ => non)
  rw [Mg125 hm, bs, e125]
  refine sm_i (fun ca => ?_) (fun _ => non)
  have ha64 : a ≤ 64 := Nat.le_of_not_lt (fun q => nI_ge (a := 64) (by omega) (by omega) ca)
  have hJ2 : ∀ j, ∃ t i, (1 ≤ j → j < p → MPj σ2 T tb j t i) := fun j => by
    by_cases hc : 1 ≤ j ∧ j < p
    · obtain ⟨t, i, w1, w2, w3, w4, w5, w6⟩ := hJ j hc.1 hc.2
      exact ⟨t, i, fun _ _ => ⟨w1, w2, w3, by rw [f2.2.2.1 120 (by decide)]; exact w4, by rw [f2.2.2.1 121 (by decide)]; exact w5, w6⟩⟩
    · exact ⟨0, 0, fun q1 q2 => absurd ⟨q1, q2⟩ hc⟩
  obtain ⟨pt, hpt⟩ : ∃ pt : Nat → Nat, ∀ j, ∃ i, (1 ≤ j → j < p → MPj σ2 T tb j (pt j) i) := ⟨fun j => (hJ2 j).choose, fun j => (hJ2 j).choose_spec⟩
  obtain ⟨pi, hpi⟩ : ∃ pi : Nat → Nat, ∀ j, 1 ≤ j → j < p → MPj σ2 T tb j (pt j) (pi j) := ⟨fun j => (hpt j).choose, fun j => (hpt j).choose_spec⟩
  obtain ⟨zf, hz1, hz2⟩ : ∃ zf : Nat → Nat, (∀ j, zf j ≤ 65536) ∧ ∀ j, 1 ≤ j → j < p → zf j = ptZ (tb (pt j)) (pi j) := by
    refine ⟨fun j => if 1 ≤ j ∧ j < p then ptZ (tb (pt j)) (pi j) else 0, fun j => ?_, fun j j1 j2 => if_pos ⟨j1, j2⟩⟩
    show (if 1 ≤ j ∧ j < p then ptZ (tb (pt j)) (pi j) else 0) ≤ 65536
    by_cases hc : 1 ≤ j ∧ j < p
    · rw [if_pos hc]; exact (ptZ_b hk2 (hpi j hc.1 hc.2)).1
    · rw [if_neg hc]; exact Nat.zero_le _
  have hR := hk2.1.2.2.1
  have hx : xs.length ≤ 4096 := by have := hR.2.1; rw [List.length_map] at this; exact this
  have e20 : gI σ2 20 = nI xs.length := by have := hR.1; rw [List.length_map] at this; exact this
  have hS : MGs F m h σ2 p a xs.length zf (fun k => ((xs.map Prod.fst).getD k []).length) := by
    refine ⟨⟨p1, p2, ha64, hx⟩, g123, e125, e20, fun k hk => ?_, hz1, fun σ c j hI j1 j2 => ?_⟩
    · have hk' : k < (xs.map Prod.fst).length := by rw [List.length_map]; exact hk
      obtain ⟨z1, z2, _⟩ := hR.2.2 k _ (List.getElem?_eq_getElem hk')
      show gA σ2 22 k = nI ((xs.map Prod.fst).getD k []).length ∧ ((xs.map Prod.fst).getD k []).length ≤ 20
      rw [List.getD_eq_getElem?_getD, List.getElem?_eq_getElem hk']
      exact ⟨z2, z1.1⟩
    · rw [q_partSize hm (by omega) (MGk_w hk2 hI) (by omega) (MPj_w (hpi j j1 j2) hI), hz2 j j1 j2]
  obtain ⟨co, hco, hO⟩ := OWe_0 ho2 (FR_refl σ2)
  have hrb := (rwN_b hS).2
  rw [Mg123 hm, bs, g123, nI_add, e_o hm, bs, q_row8 hm hF hS hO, xb_mk]
  by_cases hA : rwN p a xs.length zf (fun k => ((xs.map Prod.fst).getD k []).length) + 64 * (p + 2) ≤ 8192
  · rw [if_pos (nI_le hA (by decide))]
    refine sm_wI (I1 := OWe σ2) ?_ (fun σ3 w => ?_)
    · exact sm_any (sm_mg48 hm (by omega) (fun σ hi => sm_mg66 hm hF hW hk2 hS hA hL hN hfa (fun j j1 j2 => ⟨hpi j j1 j2, hz2 j j1 j2⟩) (by omega) hi) _ 0 F σ2 (Nat.zero_add _) (by omega) hO)
    · obtain ⟨cc, hcc, hW'⟩ := w
      exact ⟨FR_trans F2 (FR_mono hW'.1 (by decide) (by decide) (by decide) (by decide)), ⟨cc, hcc, hW'.2.1⟩, hW'.2.2⟩
  · rw [if_neg (nI_ge (a := 8192) (by omega) (by omega))]
    exact non
theorem q_merge {fs : px_FS} {gs : List (List Nat × Int64)} {ws : List (List Nat)} {B : Nat → Nat} {σ : px_S} (hm : m ≤ h.length) (hF : 65540 < F) (hr : RF σ fs) (hg : RG σ gs) (hw : RW σ ws) (hv : LNV σ) (hB : RB σ B) (hsum : (fs.map Prod.fst).sum ≤ 4096) : ∃ (v : Int32) (σ1 σ2 : px_S) (a : Nat) (s : px_TK), f_M_merge F m (mh m h σ) = some (v, mh m h σ2) ∧ lnR fs gs ws false B s a ∧ gI σ1 13 = nI a ∧ LNP fs s σ1 ∧ LNV σ1 ∧ RF σ1 fs ∧ RG σ1 gs ∧ RW σ1 ws ∧ FR lnI lnJ lnA lnB σ σ1 ∧ (a = 0 → LKD σ1 s.1.2.2.1 ∧ LKY fs s false B σ1) ∧ mgE σ1 σ2 := by
  obtain ⟨σ1, a, s, e, q1, q2, q3, q4, q5, q6, q7, q8, q9, _⟩ := q_link (rc := false) (F := F) hm hF hr hg hw hv hB hsum
  have ho : OUo σ1 := ⟨q4.2.1, q4.1⟩
  have key : ∃ v σ2, f_M_merge F m (mh m h σ) = some (v, mh m h σ2) ∧ mgE σ1 σ2 := by
    unfold f_M_merge f_M_merge_27
    rw [e_o hm, bs, show nI 0 = bI false from rfl, e, xb_mk]
    by_cases c : nI a = nI 1
    · rw [if_pos c]
      exact ⟨_, σ1, rfl, FR_refl σ1, ho⟩
    · rw [if_neg c]
      obtain ⟨k1, k2, k3, k4, ⟨k5, k6⟩, on, R, rn, k7, k8, k9, k10⟩ := q3
      obtain ⟨l1, l2, l3, l4, l5, l6, l7, l8, l9⟩ := k1
      have hk : MGk σ1 s.2.2.1.length (tOf fs s.2.2.1) (tNf fs s.2.2.1) (tB fs s.2.2.1) s.2.1.1 (xsN s) s.1.2.2.1 on R := ⟨⟨OB_of l2 k2.1 l7, l5, l3⟩, k7, l4, l1⟩
      obtain ⟨v, σ2, e2, _, hI⟩ := sm_merges (F := F) hm hF k3 k5 hk ho
      rw [e_o hm, bs, e2, xb_mk]
      by_cases cv : v = 0
      · rw [if_pos cv]; exact ⟨_, σ2, rfl, hI⟩
      · rw [if_neg cv]; exact ⟨_, σ2, rfl, hI⟩
  obtain ⟨v, σ2, e2, hE⟩ := key
  exact ⟨v, σ1, σ2, a, s, e2, q1, q2, q3, q4, q5, q6, q7, q8, q9, hE⟩
end MMG
end
section
/-! the reference's named: safe (steps spelled out by sf/pp.py) -/
/-- what named reads: the file kept, the segments, the names in order -/
def NMs (σ : px_S) (e nD : Nat) (th : Nat → Bool) (lf df : Nat → Nat) : Prop := (e ≤ 65536 ∧ gI σ 43 = nI e) ∧ (gI σ 15 = nI (sgN th 3) ∧ ∀ j, j < 3 → gA σ 59 j = bI (th j)) ∧ nD ≤ 4096 ∧ gI σ 48 = nI nD ∧ ∀ i, i < nD → gA σ 49 i = nI (df i) ∧ df i < 4096 ∧ gA σ 22 (df i) = nI (lf i) ∧ lf i ≤ 20 ∧ okS (gA σ 39 (df i))
section MNM
variable {F m : Nat} {h : px_H} {σ0 σ : px_S} {c e nD : Nat} {th : Nat → Bool} {lf df : Nat → Nat} {I : px_S → Prop}
theorem NMs_O (hM : NMs σ0 e nD th lf df) (hI : OWi σ0 σ c) : NMs σ e nD th lf df := by
  obtain ⟨⟨h1, h2⟩, ⟨h3, h4⟩, h5, h6, h7⟩ := hM
  have a : ∀ k, k ≠ 3 → gA σ k = gA σ0 k := fun k hk => hI.1.2.2.1 k (by simpa using hk)
  refine ⟨⟨h1, (hI.1.1 43 (by decide)).trans h2⟩, ⟨(hI.1.1 15 (by decide)).trans h3, fun j hj => ?_⟩, h5, (hI.1.1 48 (by decide)).trans h6, fun i hi => ?_⟩
  · rw [a 59 (by decide)]; exact h4 j hj
  · rw [a 49 (by decide), a 22 (by decide), a 39 (by decide)]; exact h7 i hi
theorem q_no4 {i : Nat} (hm : m ≤ h.length) (h59 : ∀ j, j < 3 → gA σ 59 j = bI (th j)) (hi : i < 3) : ∀ (d k f : Nat), k + d = i + 1 → d < f → f_M_numberOf_4 F f m (nI i) (nI (sgN th k)) (nI k) (mh m h σ) = some (nI (sgN th (i + 1)), mh m h σ) := by
  intro d
  induction d with
  | zero =>
    intro k f hk hf
    obtain ⟨f, rfl⟩ : ∃ y, f = y + 1 := ⟨f - 1, by omega⟩
    obtain rfl : k = i + 1 := by omega
    unfold f_M_numberOf_4 f_M_numberOf_32
    rw [if_pos (Int32.not_le.mp (nI_ge (by omega) (by omega)))]
  | succ d ih =>
    intro k f hk hf
    obtain ⟨f, rfl⟩ : ∃ y, f = y + 1 := ⟨f - 1, by omega⟩
    have go := ih (k + 1) f (by omega) (by omega)
    have es : sgN th (k + 1) = sgN th k + (if th k = true then 1 else 0) := rfl
    rw [es] at go
    unfold f_M_numberOf_4 f_M_numberOf_24
    rw [if_neg (nI_nlt (by omega) (by omega)), Mr59 hm, bs, Ma59 hm (by omega), bs, h59 k (by omega), nI_add]
    cases hb : th k with
    | false =>
      rw [hb, if_neg (by decide)] at go
      rw [if_pos (show bI false = 0 from rfl), nI_add]
      exact go
    | true =>
      rw [hb, if_pos rfl] at go
      rw [if_neg (show ¬ bI true = 0 by decide), nI_add, nI_add]
      exact go
theorem q_no {i : Nat} (hm : m ≤ h.length) (hF : 8 < F) (h59 : ∀ j, j < 3 → gA σ 59 j = bI (th j)) (hi : i < 3) : f_M_numberOf F m (nI i) (mh m h σ) = some (nI (sgN th (i + 1)), mh m h σ) := by
  unfold f_M_numberOf
  exact q_no4 hm h59 hi (i + 1) 0 F (by omega) (by omega)
theorem sgN_m {a : Nat} : ∀ {b : Nat}, a ≤ b → sgN th a ≤ sgN th b
  | 0, h => by rw [Nat.le_zero.mp h]; exact Nat.le_refl _
  | b + 1, h => by
    by_cases q : a = b + 1
    · rw [q]; exact Nat.le_refl _
    · exact Nat.le_trans (sgN_m (by omega)) (Nat.le_add_right _ _)
theorem sm_nseg {q i : Nat} (hm : m ≤ h.length) (hF : 65540 < F) (hq : q + 64 ≤ 65536) (hi3 : i < 3) (hI : OWi σ0 σ c) : Sm m h (fun σ' => OWi σ0 σ' c) Any (f_M_namedSegment F m (nI q) (nI i) (mh m h σ)) := by
  have f38 : ∀ {v : Int64} (σ : px_S), OWi σ0 σ c → Sm m h (fun σ' => OWi σ0 σ' c) Any (f_M_namedSegment_38 F m (nI q) (nI i) m (nI (q + 8)) v (mh m h σ)) := fun {v} σ hi => by
    unfold f_M_namedSegment_38
    refine sm_put hm hF hi (by omega) (fun σ hi => ?_)
    rw [Mr61 hm, bs, Ma61 hm hi3, bs, nI_add]
    refine sm_put hm hF hi (by omega) (fun σ hi => ?_)
    rw [Mr60 hm, bs, Ma60 hm hi3, bs, nI_add]
    refine sm_put hm hF hi (by omega) (fun σ hi => ?_)
    rw [Mr62 hm, bs, Ma62 hm hi3, bs, nI_add]
    refine sm_put hm hF hi (by omega) (fun σ hi => ?_)
    rw [nI_add]
    exact sm_put hm hF hi (by omega) (fun σ hi => sm_r any hi)
  unfold f_M_namedSegment
  rw [nI_add]
  refine sm_put hm hF hI (by omega) (fun σ hi => ?_)
  rw [nI_add]
  exact sm_i (fun _ => f38 σ hi) (fun _ => sm_i (fun _ => f38 σ hi) (fun _ => f38 σ hi))
theorem sm_nm443 {x1 x2 x3 x5 : Int32} {q4 : Nat} (hm : m ≤ h.length) (hF : 65540 < F) (hM : NMs σ0 e nD th lf df) (hq : q4 + 64 * (sgN th 3 + 3) ≤ 65536) (hc : c ≤ 65536) (hI : OWi σ0 σ c) : Sm m h (OWe σ0) Any (f_M_named_443 F m x1 x2 x3 (nI q4) x5 (mh m h σ)) := by
  have h15 := (NMs_O hM hI).2.1.1
  generalize sgN th 3 = ns at *
  unfold f_M_named_443
  rw [Mg15 hm, bs, h15, nI_add, show nI 64 * nI (ns + 1) = nI (64 * (ns + 1)) from (Int32.ofNat_mul _ _).symm, nI_add]
  rw [nI_add]
  refine sm_put hm hF hI (by omega) (fun σ hi => ?_)
  rw [nI_add]
  refine sm_put hm hF hi (by omega) (fun σ hi => ?_)
  rw [Mg48 hm, bs, nI_add]
  refine sm_put hm hF hi (by omega) (fun σ hi => ?_)
  rw [Mg15 hm, bs, nI_add]
  refine sm_put hm hF hi (by omega) (fun σ hi => ?_)
  rw [nI_add]
  refine sm_put hm hF hi (by omega) (fun σ hi => ?_)
  rw [nI_add]
  refine sm_put hm hF hi (by omega) (fun σ hi => ?_)
  rw [nI_add]
  refine sm_put hm hF hi (by omega) (fun σ hi => ?_)
  rw [nI_add]
  refine sm_put hm hF hi (by omega) (fun σ hi => ?_)
  rw [nI_add]
  refine sm_put hm hF hi (by omega) (fun σ hi => ?_)
  rw [nI_add]
  refine sm_put hm hF hi (by omega) (fun σ hi => ?_)
  rw [nI_add]
  refine sm_put hm hF hi (by omega) (fun σ hi => ?_)
  refine sm_put (q := 40) (n := 8) hm hF hi (by decide) (fun σ hi => ?_)
  refine sm_put (q := 58) (n := 2) hm hF hi (by decide) (fun σ hi => ?_)
  rw [Mg15 hm, bs]
  refine sm_put (q := 60) (n := 2) hm hF hi (by decide) (fun σ hi => ?_)
  rw [Mg15 hm, bs]
  exact sm_put (q := 62) (n := 2) hm hF hi (by decide) (fun σ hi => sm_r any ⟨c, hc, hi⟩)
theorem sm_nm403 {x1 x2 x3 x5 : Int32} {q4 : Nat} (hm : m ≤ h.length) (hF : 65540 < F) (hM : NMs σ0 e nD th lf df) (hq : q4 + 64 * (sgN th 3 + 3) ≤ 65536) (hc : c ≤ 65536) : ∀ (d i f : Nat) (σ : px_S), i + d = 3 → d < f → OWi σ0 σ c → Sm m h (OWe σ0) Any (f_M_named_403 F f m x1 x2 x3 (nI q4) x5 (nI i) (mh m h σ)) := by
  intro d
  induction d with
  | zero =>
    intro i f σ hi hf hI
    obtain ⟨f, rfl⟩ : ∃ y, f = y + 1 := ⟨f - 1, by omega⟩
    unfold f_M_named_403
    rw [if_pos (nI_le (by omega) (by omega))]
    exact sm_nm443 hm hF hM hq hc hI
  | succ d ih =>
    intro i f σ hi hf hI
    obtain ⟨f, rfl⟩ : ∃ y, f = y + 1 := ⟨f - 1, by omega⟩
    have hm59 := (NMs_O hM hI).2.1.2
    have hle := sgN_m (th := th) (show i + 1 ≤ 3 by omega)
    unfold f_M_named_403 f_M_named_437
    rw [if_neg (nI_ge (by omega) (by omega)), Mr59 hm, bs, Ma59 hm (by omega), bs, nI_add]
    refine sm_i (fun _ => ih _ _ _ (by omega) (by omega) hI) (fun _ => ?_)
    rw [e_o hm, bs, q_no hm (by omega) hm59 (by omega), xb_mk, show nI 64 * nI (sgN th (i + 1)) = nI (64 * sgN th (i + 1)) from (Int32.ofNat_mul _ _).symm, nI_add]
    exact sm_o hm (fun _ => sm_x (sm_nseg hm hF (by omega) (by omega) hI) (fun _ σ _ hi => ih _ _ _ (by omega) (by omega) hi))
theorem sm_nm340 {k167 : Nat → Int32 → Int32 → Int32 → Int32 → Int32 → Int32 → px_H → Option (Int32 × px_H)} {x2 x4 x5 : Int32} {x q3 i d' l : Nat} (hm : m ≤ h.length) (hd : d' < 4096) (e22 : gA σ0 22 d' = nI l) (hl : l ≤ 20) (hq : q3 + x + l ≤ 65536) (hx : x < 2 ^ 20) (hK : ∀ σ, OWi σ0 σ c → Sm m h I Any (k167 m (nI (x + (l + 1))) x2 (nI q3) x4 x5 (nI (i + 1)) (mh m h σ))) : ∀ (d j f : Nat) (σ : px_S), j + d = l → d < f → OWi σ0 σ c → Sm m h I Any (f_M_named_340 F k167 f m (nI x) x2 (nI q3) x4 x5 (nI i) (nI d') (nI j) (mh m h σ)) := by
  intro d
  induction d with
  | zero =>
    intro j f σ hj hf hI
    obtain ⟨f, rfl⟩ : ∃ y, f = y + 1 := ⟨f - 1, by omega⟩
    have g22 : gA σ 22 d' = nI l := by rw [hI.1.2.2.1 22 (by decide)]; exact e22
    unfold f_M_named_340 f_M_named_382
    rw [Mr22 hm, bs, Ma22 hm hd, bs, g22, if_pos (nI_le (by omega) (by omega)), bs, Ma22 hm hd, bs, g22, nI_add, nI_add, nI_add]
    exact hK σ hI
  | succ d ih =>
    intro j f σ hj hf hI
    obtain ⟨f, rfl⟩ : ∃ y, f = y + 1 := ⟨f - 1, by omega⟩
    have g22 : gA σ 22 d' = nI l := by rw [hI.1.2.2.1 22 (by decide)]; exact e22
    unfold f_M_named_340
    rw [Mr22 hm, bs, Ma22 hm hd, bs, g22, if_neg (nI_ge (by omega) (by omega)), Mr3 hm, bs, Mr21 hm, bs, show nI 20 * nI d' = nI (20 * d') from (Int32.ofNat_mul _ _).symm, nI_add, Ma21 hm (by omega), bs, nI_add, nI_add, nI_add]
    exact sm_w3 hm hI (by omega) (fun σ hi => ih _ _ _ (by omega) (by omega) hi)
theorem sm_nm297 {k167 : Nat → Int32 → Int32 → Int32 → Int32 → Int32 → Int32 → px_H → Option (Int32 × px_H)} {x2 x4 x5 : Int32} {v : Int64} {x q3 q8 i d' l : Nat} (hm : m ≤ h.length) (hF : 65540 < F) (hd : d' < 4096) (e22 : gA σ0 22 d' = nI l) (hl : l ≤ 20) (hq : q3 + x + l ≤ 65536) (hx : x < 2 ^ 20) (hq8 : q8 + 24 ≤ 65536) (hK : ∀ σ, OWi σ0 σ c → Sm m h I Any (k167 m (nI (x + (l + 1))) x2 (nI q3) x4 x5 (nI (i + 1)) (mh m h σ))) (hI : OWi σ0 σ c) : Sm m h I Any (f_M_named_297 F k167 m (nI x) x2 (nI q3) x4 x5 (nI i) (nI d') (nI q8) m (nI (q8 + 6)) v (mh m h σ)) := by
  unfold f_M_named_297
  refine sm_put hm hF hI (by omega) (fun σ hi => ?_)
  rw [Mr29 hm, bs, Ma29 hm hd, bs, nI_add]
  refine sm_put hm hF hi (by omega) (fun σ hi => ?_)
  rw [Mr41 hm, bs, Ma41 hm hd, bs, nI_add]
  refine sm_put hm hF hi (by omega) (fun σ hi => ?_)
  exact sm_nm340 hm hd e22 hl hq hx hK l 0 F σ (Nat.zero_add _) (by omega) hi
theorem sm_nm167 {x5 : Int32} {q2 q3 q4 TX : Nat} (hm : m ≤ h.length) (hF : 65540 < F) (hM : NMs σ0 e nD th lf df) (eTX : TX = 1 + sumT (fun i => lf i + 1) nD) (h2 : q2 + 24 * (nD + 1) ≤ 65536) (h3 : q3 + TX ≤ 65536) (hq : q4 + 64 * (sgN th 3 + 3) ≤ 65536) (hc : c ≤ 65536) : ∀ (d i f : Nat) (σ : px_S), i + d = nD → d < f → OWi σ0 σ c → Sm m h (OWe σ0) Any (f_M_named_167 F f m (nI (1 + sumT (fun i => lf i + 1) i)) (nI q2) (nI q3) (nI q4) x5 (nI i) (mh m h σ)) := by
  have hN := hM.2.2.1
  intro d
  induction d with
  | zero =>
    intro i f σ hi hf hI
    obtain ⟨f, rfl⟩ : ∃ y, f = y + 1 := ⟨f - 1, by omega⟩
    unfold f_M_named_167 f_M_named_400
    rw [Mg48 hm, bs, (NMs_O hM hI).2.2.2.1, if_pos (nI_le (by omega) (by omega))]
    exact sm_nm403 hm hF hM hq hc 3 0 F σ rfl (by omega) hI
  | succ d ih =>
    intro i f σ hi hf hI
    obtain ⟨f, rfl⟩ : ∃ y, f = y + 1 := ⟨f - 1, by omega⟩
    have hMs := NMs_O hM hI
    obtain ⟨e49, hd, e22, hl, hok⟩ := hMs.2.2.2.2 i (by omega)
    have e22' := (hM.2.2.2.2 i (by omega)).2.2.1
    have hle := sumT_le (f := fun i => lf i + 1) (show i + 1 ≤ nD by omega)
    have es : sumT (fun i => lf i + 1) (i + 1) = sumT (fun i => lf i + 1) i + (lf i + 1) := rfl
    have go := fun σ hi => ih (i + 1) f σ (by omega) (by omega) hi
    rw [es, ← Nat.add_assoc] at go
    rw [es] at hle
    have h59 := hMs.2.1.2
    unfold f_M_named_167
    rw [Mg48 hm, bs, hMs.2.2.2.1, if_neg (nI_ge (by omega) (by omega)), Mr49 hm, bs, Ma49 hm (by omega), bs, e49, Mr39 hm, bs, Ma39 hm hd, bs, nI_add, show nI 24 * nI (i + 1) = nI (24 * (i + 1)) from (Int32.ofNat_mul _ _).symm, nI_add]
    generalize sumT (fun i => lf i + 1) i = S at *
    generalize sumT (fun i => lf i + 1) nD = SS at *
    have f240 : ∀ {s0 : Int32}, (s0 = 0 ∨ ∃ s, s < 3 ∧ gA σ 39 (df i) = nI s) → Sm m h (OWe σ0) Any (f_M_named_240 F (f_M_named_167 F f) m (nI (1 + S)) (nI q2) (nI q3) (nI q4) x5 (nI i) (nI (df i)) (nI (q2 + 24 * (i + 1))) s0 (mh m h σ)) := fun {s0} hs => by
      unfold f_M_named_240
      refine sm_put hm hF hI (by omega) (fun σ1 hi1 => ?_)
      rw [Mr38 hm, bs, Ma38 hm hd, bs, nI_add]
      refine sm_put hm hF hi1 (by omega) (fun σ2 hi2 => ?_)
      rw [nI_add]
      have fin : ∀ {v : Int64}, Sm m h (OWe σ0) Any (f_M_named_297 F (f_M_named_167 F f) m (nI (1 + S)) (nI q2) (nI q3) (nI q4) x5 (nI i) (nI (df i)) (nI (q2 + 24 * (i + 1))) m (nI (q2 + 24 * (i + 1) + 6)) v (mh m h σ2)) := fun {v} => sm_nm297 hm hF hd e22' hl (by omega) (by omega) (by omega) go hi2
      rcases hs with w | ⟨s, w1, w2⟩
      · rw [if_pos w]; exact fin
      · refine sm_i (fun _ => fin) (fun _ => ?_)
        have g39 : gA σ2 39 (df i) = nI s := by rw [hi2.1.2.2.1 39 (by decide), ← hI.1.2.2.1 39 (by decide)]; exact w2
        rw [Mr39 hm, bs, Ma39 hm hd, bs, g39, e_o hm, bs, q_no hm (by omega) (NMs_O hM hi2).2.1.2 w1, xb_mk]
        exact fin
    obtain ⟨o, eo, ho⟩ := hok
    cases o with
    | none =>
      rw [eo, if_pos (show tdA none < 0 by decide)]
      unfold f_M_named_239
      exact f240 (Or.inl rfl)
    | some s =>
      have hs3 := ho s rfl
      have eo' : gA σ 39 (df i) = nI s := eo
      rw [eo', if_neg (show ¬ nI s < 0 from fun w => absurd w (Int32.not_lt.mpr (nI_0le (by omega)))), Mr59 hm, bs, bs, Ma39 hm hd, bs, eo', if_pos (nI_0le (by omega)), bs, Ma39 hm hd, bs, eo']
      unfold f_M_named_231 f_M_named_239
      rw [Ma59 hm hs3, bs]
      exact sm_i (fun _ => f240 (Or.inl rfl)) (fun _ => f240 (Or.inr ⟨s, hs3, eo'⟩))
theorem sm_nm116 {q2 q3 q4 q5 TX : Nat} (hm : m ≤ h.length) (hF : 65540 < F) (hM : NMs σ0 e nD th lf df) (eTX : TX = 1 + sumT (fun i => lf i + 1) nD) (h2 : q2 + 24 * (nD + 1) ≤ 65536) (h3 : q3 + TX ≤ 65536) (hq : q4 + 64 * (sgN th 3 + 3) ≤ 65536) (h5 : q5 ≤ 65536) : ∀ (d j f : Nat) (σ : px_S), j + d = q5 → d < f → OWi σ0 σ c → Sm m h (OWe σ0) Any (f_M_named_116 F f m (nI q2) (nI q3) (nI q4) (nI q5) (nI j) (mh m h σ)) := by
  have hN := hM.2.2.1
  intro d
  induction d with
  | zero =>
    intro j f σ hj hf hI
    obtain ⟨f, rfl⟩ : ∃ y, f = y + 1 := ⟨f - 1, by omega⟩
    unfold f_M_named_116 f_M_named_156
    rw [if_pos (nI_le (by omega) (by omega))]
    refine sm_p4 hm hI (fun σ hi => ?_)
    exact sm_nm167 hm hF hM eTX h2 h3 hq h5 nD 0 F σ (Nat.zero_add _) (by omega) hi
  | succ d ih =>
    intro j f σ hj hf hI
    obtain ⟨f, rfl⟩ : ∃ y, f = y + 1 := ⟨f - 1, by omega⟩
    unfold f_M_named_116 f_M_named_149
    rw [if_neg (nI_ge (by omega) (by omega)), Mr3 hm, bs, Mg43 hm, bs, nI_add]
    refine sm_i (fun _ => ?_) (fun _ => ?_)
    · exact sm_w3 hm hI (by omega) (fun σ hi => ih _ _ _ (by omega) (by omega) hi)
    · rw [Mr42 hm, bs, Ma42 hm (by omega), bs]
      exact sm_w3 hm hI (by omega) (fun σ hi => ih _ _ _ (by omega) (by omega) hi)
theorem sm_nm26 (hm : m ≤ h.length) (hF : 65540 < F) (hM : NMs σ0 e nD th lf df) (hc : c ≤ 65536) (hI : OWi σ0 σ c) : ∀ (d i f : Nat), i + d = nD → d < f → Sm m h (OWe σ0) Any (f_M_named_26 F f m (nI (1 + sumT (fun i => lf i + 1) i)) (nI i) (mh m h σ)) := by
  have hMs := NMs_O hM hI
  have hN := hM.2.2.1
  have he := hM.1.1
  have hsg := sgN_le (th := th) 3
  intro d
  induction d with
  | zero =>
    intro i f hi hf
    obtain ⟨f, rfl⟩ : ∃ y, f = y + 1 := ⟨f - 1, by omega⟩
    obtain rfl : i = nD := by omega
    have hB := sumT_b' (f := fun i => lf i + 1) (k := 21) (n := i) (fun j hj => by have := (hM.2.2.2.2 j hj).2.2.2.1; show lf j + 1 ≤ 21; omega)
    obtain ⟨TX, eTX⟩ : ∃ TX, TX = 1 + sumT (fun i => lf i + 1) i := ⟨_, rfl⟩
    unfold f_M_named_26 f_M_named_56
    rw [Mg48 hm, bs, hMs.2.2.2.1, if_pos (nI_le (by omega) (by omega)), Mg43 hm, bs, hMs.1.2, e_o hm, bs, q_wider8 (by omega), xb_mk, Mg48 hm, bs, hMs.2.2.2.1, nI_add, show nI 24 * nI (i + 1) = nI (24 * (i + 1)) from (Int32.ofNat_mul _ _).symm, nI_add]
    have w1 := wiN_b e
    generalize wiN e = W1 at *
    rw [e_o hm, bs, q_wider8 (by omega), xb_mk]
    have w2 := wiN_b (W1 + 24 * (i + 1))
    generalize wiN (W1 + 24 * (i + 1)) = W2 at *
    rw [← eTX, nI_add, e_o hm, bs, q_wider8 (by omega), xb_mk]
    have w3 := wiN_b (W2 + TX)
    generalize wiN (W2 + TX) = W3 at *
    rw [Mg15 hm, bs, hMs.2.1.1, nI_add, show nI 64 * nI (sgN th 3 + 3) = nI (64 * (sgN th 3 + 3)) from (Int32.ofNat_mul _ _).symm, nI_add]
    by_cases hT : W3 + 64 * (sgN th 3 + 3) ≤ 65536
    · rw [if_pos (show nI (W3 + 64 * (sgN th 3 + 3)) ≤ (65536 : Int32) from nI_le hT (by decide))]
      exact sm_nm116 hm hF hM eTX (by omega) (by omega) hT hT _ 0 F σ (Nat.zero_add _) (by omega) hI
    · rw [if_neg (show ¬ nI (W3 + 64 * (sgN th 3 + 3)) ≤ (65536 : Int32) from nI_ge (a := 65536) (by omega) (by omega))]
      exact sm_r any ⟨c, hc, hI⟩
  | succ d ih =>
    intro i f hi hf
    obtain ⟨f, rfl⟩ : ∃ y, f = y + 1 := ⟨f - 1, by omega⟩
    obtain ⟨e49, hd, e22, hl, _⟩ := hMs.2.2.2.2 i (by omega)
    have es : sumT (fun i => lf i + 1) (i + 1) = sumT (fun i => lf i + 1) i + (lf i + 1) := rfl
    have go := ih (i + 1) f (by omega) (by omega)
    rw [es, ← Nat.add_assoc] at go
    unfold f_M_named_26
    rw [Mg48 hm, bs, hMs.2.2.2.1, if_neg (nI_ge (by omega) (by omega)), Mr22 hm, bs, Mr49 hm, bs, Ma49 hm (by omega), bs, e49, Ma22 hm hd, bs, e22, nI_add, nI_add, nI_add]
    exact go
theorem sm_named (hm : m ≤ h.length) (hF : 65540 < F) (ho : OUo σ0) (hM : gI σ0 13 = 0 → NMs σ0 e nD th lf df) : Sm m h (OWe σ0) Any (f_M_named F m (mh m h σ0)) := by
  unfold f_M_named f_M_named_13
  refine sm_gI hm rfl (sm_i (fun h13 => ?_) (fun _ => ?_))
  · refine sm_o hm (fun _ => sm_t0 (σ0 := σ0) hm (FR_refl _) (fun σ hi => sm_i (fun _ => ?_) (fun hc => absurd rfl hc)))
    obtain ⟨co, hco, hO⟩ := OWe_0 ho hi
    have hN := (hM h13).2.2.1
    exact sm_nm26 hm hF (hM h13) hco hO nD 0 F (Nat.zero_add _) (by omega)
  · exact sm_o hm (fun _ => sm_tA (σ0 := σ0) hm (FR_refl _) (fun σ hi => sm_i (fun hc => absurd hc (by decide)) (fun _ => sm_r any (OWe_0 ho hi))))
end MNM
end
