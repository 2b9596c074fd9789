/-! the reference says a number: safe (steps spelled out by sf/pp.py) -/
/-- how many digits -/
def wdN (v : Nat) : Nat := if v < 10 then 1 else if v < 100 then 2 else if v < 1000 then 3 else if v < 10000 then 4 else 5
section MDG
variable {F m : Nat} {h : px_H} {σ0 σ : px_S} {c : Nat}
theorem nI_divG {a b : Nat} (ha : a < 2 ^ 30) (hb : b < 2 ^ 30) : nI a / nI b = nI (a / b) := by
  apply Int32.toInt_inj.mp
  rw [Int32.toInt_div]
  have hd : a / b ≤ a := Nat.div_le_self _ _
  have e1 : (nI a).toInt = (a : Int) := nI_toInt (by omega)
  have e2 : (nI b).toInt = (b : Int) := nI_toInt (by omega)
  have e3 : (nI (a / b)).toInt = ((a / b : Nat) : Int) := nI_toInt (by omega)
  rw [e1, e2, e3, Int.tdiv_eq_ediv_of_nonneg (Int.natCast_nonneg a), ← Int.natCast_ediv]
  generalize a / b = q at hd
  exact Int.bmod_eq_of_le (by omega) (by omega)
theorem q_wide {v : Nat} {ph : px_H} (hv : v < 2 ^ 30) : f_M_wide F (nI v) ph = some (nI (wdN v), ph) := by
  unfold f_M_wide f_M_wide_43 wdN
  by_cases c1 : v < 10
  · rw [if_neg (nI_ge c1 (by omega)), if_pos c1]
  · rw [if_pos (nI_le (show 10 ≤ v by omega) (by omega)), if_neg c1]
    by_cases c2 : v < 100
    · rw [if_neg (nI_ge c2 (by omega)), if_pos c2]
    · rw [if_pos (nI_le (show 100 ≤ v by omega) (by omega)), if_neg c2]
      by_cases c3 : v < 1000
      · rw [if_neg (nI_ge c3 (by omega)), if_pos c3]
      · rw [if_pos (nI_le (show 1000 ≤ v by omega) (by omega)), if_neg c3]
        by_cases c4 : v < 10000
        · rw [if_neg (nI_ge c4 (by omega)), if_pos c4]
        · rw [if_pos (nI_le (show 10000 ≤ v by omega) (by omega)), if_neg c4]
theorem sm_dg_21 {v : Int32} (hm : m ≤ h.length) : ∀ (k f p : Nat) (σ : px_S), k ≤ 5 → k < f → p + k ≤ 65536 → OWi σ0 σ c → Sm m h (fun σ' => OWi σ0 σ' c) Any (f_M_digits_21 F f m v (nI (10 ^ k / 10)) (nI p) (mh m h σ)) := by
  intro k
  induction k with
  | zero =>
    intro f p σ hk hf hp hI
    obtain ⟨f, rfl⟩ : ∃ y, f = y + 1 := ⟨f - 1, by omega⟩
    unfold f_M_digits_21 f_M_digits_53
    rw [if_pos (by decide)]
    exact sm_r any hI
  | succ k ih =>
    intro f p σ hk hf hp hI
    obtain ⟨f, rfl⟩ : ∃ y, f = y + 1 := ⟨f - 1, by omega⟩
    have e10 : 10 ^ (k + 1) / 10 = 10 ^ k := by rw [Nat.pow_succ, Nat.mul_div_cancel _ (by decide)]
    have hb : 10 ^ k ≤ 10 ^ 4 := Nat.pow_le_pow_right (by decide) (by omega)
    have h1 : 1 ≤ 10 ^ k := Nat.pos_of_ne_zero (by simp)
    rw [e10]
    have hn : ¬ nI (10 ^ k) ≤ 0 := fun w => absurd w (nI_ge (a := 0) (b := 10 ^ k) (by omega) (by omega))
    have hx : xnzI (nI (10 ^ k)) = some () := by
      unfold xnzI
      rw [if_neg (fun w => hn (by rw [w]; decide))]
    unfold f_M_digits_21
    rw [if_neg hn, Mr3 hm, bs, hx, bs, nI_divG (by omega) (by decide), nI_add]
    exact sm_w3 hm hI (by omega) (fun σ hi => ih f (p + 1) σ (by omega) (by omega) (by omega) hi)
theorem sm_dg_2 {v p : Nat} (hm : m ≤ h.length) (hF : 65540 < F) (hv : v ≤ 99999) (hp : p + wdN v ≤ 65536) (hI : OWi σ0 σ c) : ∀ (d k f : Nat), k + d = 4 → d < f → 10 ^ k ≤ v ∨ k = 0 → Sm m h (fun σ' => OWi σ0 σ' c) Any (f_M_digits_2 F f m (nI p) (nI v) (nI (10 ^ k)) (mh m h σ)) := by
  have stop : ∀ k, k ≤ 4 → (10 ^ k ≤ v ∨ k = 0) → v < 10 ^ (k + 1) → Sm m h (fun σ' => OWi σ0 σ' c) Any (f_M_digits_18 F m (nI p) (nI v) (nI (10 ^ k)) (mh m h σ)) := fun k hk h1 h2 => by
    have e10 : 10 ^ k = 10 ^ (k + 1) / 10 := by rw [Nat.pow_succ, Nat.mul_div_cancel _ (by decide)]
    have hw : wdN v = k + 1 := by
      have : k = 0 ∨ k = 1 ∨ k = 2 ∨ k = 3 ∨ k = 4 := by omega
      unfold wdN
      rcases this with rfl | rfl | rfl | rfl | rfl
      · rw [if_pos (by omega)]
      · rw [if_neg (by omega), if_pos (by omega)]
      · rw [if_neg (by omega), if_neg (by omega), if_pos (by omega)]
      · rw [if_neg (by omega), if_neg (by omega), if_neg (by omega), if_pos (by omega)]
      · rw [if_neg (by omega), if_neg (by omega), if_neg (by omega), if_neg (by omega)]
    unfold f_M_digits_18
    rw [e10]
    exact sm_dg_21 hm (k + 1) F p σ (by omega) (by omega) (by omega) hI
  have nz : ∀ k, k ≤ 4 → xnzI (nI (10 ^ k)) = some () := fun k hk => by
    have : k = 0 ∨ k = 1 ∨ k = 2 ∨ k = 3 ∨ k = 4 := by omega
    rcases this with rfl | rfl | rfl | rfl | rfl <;> decide
  have bd : ∀ k, k ≤ 4 → 1 ≤ 10 ^ k ∧ 10 ^ k ≤ 10000 := fun k hk => ⟨Nat.pos_of_ne_zero (by simp), (Nat.pow_le_pow_right (by decide) hk : 10 ^ k ≤ 10 ^ 4)⟩
  have dv : ∀ k, k ≤ 4 → (v / 10 ^ k ≤ 9 ↔ v < 10 ^ (k + 1)) := fun k hk => by
    rw [Nat.pow_succ, Nat.mul_comm, ← Nat.div_lt_iff_lt_mul (bd k hk).1]; omega
  intro d
  induction d with
  | zero =>
    intro k f hk hf h1
    obtain ⟨f, rfl⟩ : ∃ y, f = y + 1 := ⟨f - 1, by omega⟩
    obtain rfl : k = 4 := by omega
    unfold f_M_digits_2
    rw [nz 4 (by decide), bs, nI_divG (by omega) (by decide), if_pos (nI_le ((dv 4 (by decide)).mpr (by omega)) (by decide))]
    exact stop 4 (by decide) h1 (by omega)
  | succ d ih =>
    intro k f hk hf h1
    obtain ⟨f, rfl⟩ : ∃ y, f = y + 1 := ⟨f - 1, by omega⟩
    have hb := bd k (by omega)
    unfold f_M_digits_2
    rw [nz k (by omega), bs, nI_divG (by omega) (by omega)]
    by_cases c9 : v / 10 ^ k ≤ 9
    · rw [if_pos (nI_le c9 (by decide))]
      exact stop k (by omega) h1 ((dv k (by omega)).mp c9)
    · have hd : v / 10 ^ k ≤ v := Nat.div_le_self _ _
      rw [if_neg (nI_ge (by omega) (by omega)), show nI 10 * nI (10 ^ k) = nI (10 * 10 ^ k) from (Int32.ofNat_mul 10 (10 ^ k)).symm, Nat.mul_comm 10 (10 ^ k), ← Nat.pow_succ]
      exact ih (k + 1) f (by omega) (by omega) (Or.inl (Nat.le_of_not_lt (fun w => c9 ((dv k (by omega)).mpr w))))
/-- a number and what comes behind it -/
theorem sm_sayN {v : Nat} {w : Int32} (hm : m ≤ h.length) (hF : 65540 < F) (hv : v ≤ 99999) (hc : c + wdN v + 1 ≤ 65536) (hI : OWi σ0 σ c) : Sm m h (fun σ' => OWi σ0 σ' (c + wdN v + 1)) Any (f_M_sayNumber F m (nI v) w (mh m h σ)) := by
  unfold f_M_sayNumber f_M_digits
  rw [Mg4 hm, bs, hI.2.1]
  refine sm_o hm (fun _ => sm_x (sm_dg_2 hm hF hv (by omega) hI 4 0 F rfl (by omega) (Or.inr rfl)) (fun _ σ _ hi => ?_))
  rw [Mg4 hm, bs, hi.2.1, q_wide (by omega), xb_mk, nI_add]
  refine sm_p4 hm hi (fun σ hi => ?_)
  rw [Mr3 hm, bs, Mg4 hm, bs, hi.2.1]
  refine sm_w3 hm hi (by omega) (fun σ hi => ?_)
  rw [Mg4 hm, bs, hi.2.1, nI_add]
  exact sm_p4 hm hi (fun σ hi => sm_r any hi)
end MDG
