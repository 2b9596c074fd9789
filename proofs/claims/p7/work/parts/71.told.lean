/-! names told: give, wish, forget of the reference -/
def nzf (b : Nat → Nat) : Nat → Nat → Bool
  | _, 0 => true
  | k, d + 1 => decide (b k ≠ 0) && nzf b (k + 1) d
/-- the tape is a name -/
def tnm (b : Nat → Nat) (n : Nat) : Bool := decide (1 ≤ n) && decide (n ≤ 20) && nzf b 0 n
theorem isB_0 {x : Int32} (h : isB x) : x = 0 ↔ b8 x = 0 := by
  constructor
  · intro e; rw [e]; decide
  · intro e
    rw [h, e]; decide
theorem isB_inj {x : Nat} {y : Int32} (hy : isB y) (hx : x < 256) : (nI x).toInt8.toInt32 = y ↔ x = b8 y := by
  constructor
  · intro e; rw [← e, b8_n x hx]
  · intro e
    rw [hy, ← e]
theorem tk_get (b : Nat → Nat) (p : Nat) : ∀ (k j : Nat), j < k → (tk b p k)[j]? = some (b (p + j))
  | 0, j, h => absurd h (Nat.not_lt_zero _)
  | k + 1, j, h => by
    show (tk b p k ++ [b (p + k)])[j]? = _
    by_cases c : j < k
    · rw [List.getElem?_append_left (by rw [tk_len]; exact c)]
      exact tk_get b p k j c
    · rw [List.getElem?_append_right (by rw [tk_len]; omega), tk_len, show j = k by omega, Nat.sub_self]
      rfl
def eqb (A T : Nat → Int32) (o : Nat) : Nat → Nat → Bool
  | _, 0 => true
  | k, d + 1 => decide (A (o + k) = T k) && eqb A T o (k + 1) d
theorem eqb_iff {A T : Nat → Int32} {o : Nat} : ∀ (d k : Nat), eqb A T o k d = true ↔ ∀ j, k ≤ j → j < k + d → A (o + j) = T j
  | 0, k => by
    constructor
    · intro _ j h1 h2; omega
    · intro _; rfl
  | d + 1, k => by
    unfold eqb
    rw [Bool.and_eq_true, decide_eq_true_iff, eqb_iff d (k + 1)]
    constructor
    · intro h j h1 h2
      by_cases c : j = k
      · rw [c]; exact h.1
      · exact h.2 j (by omega) (by omega)
    · intro h
      exact ⟨h k (Nat.le_refl _) (by omega), fun j h1 h2 => h j (by omega) (by omega)⟩
/-- a list of names, as the reference has it -/
def RN (σ : px_S) (ka kb : Nat) (ws : List (List Nat)) : Prop := ws.length ≤ 16 ∧ ∀ i w, ws[i]? = some w → okN w ∧ gA σ kb i = nI w.length ∧ ∀ j x, w[j]? = some x → gA σ ka (20 * i + j) = (nI x).toInt8.toInt32
/-- the answer of toldAt -/
def tdA : Option Nat → Int32
  | none => Int32.ofInt (-1)
  | some j => nI j
section TLD
variable {F m : Nat} {h : px_H} {σ : px_S} {n : Nat} {b : Nat → Nat}
theorem q_iT_24 (hm : m ≤ h.length) (ht : RT σ n b) : ∀ (d k f : Nat) (g : Bool), k + d = n → d < f → f_M_isTapeName_24 F f m (bI g) (nI k) (mh m h σ) = some (bI (g && nzf b k d), mh m h σ) := by
  obtain ⟨t1, t2, t3, t4⟩ := ht
  intro d
  induction d with
  | zero =>
    intro k f g hk hf
    obtain ⟨f, rfl⟩ : ∃ x, f = x + 1 := ⟨f - 1, by omega⟩
    unfold f_M_isTapeName_24 f_M_isTapeName_57
    rw [Mg2 hm, bs, t1, if_pos (nI_le (by omega) (by omega)), xz_b]
    unfold nzf
    rw [Bool.and_true]
  | succ d ih =>
    intro k f g hk hf
    obtain ⟨f, rfl⟩ : ∃ x, f = x + 1 := ⟨f - 1, by omega⟩
    unfold f_M_isTapeName_24 f_M_isTapeName_57 f_M_isTapeName_50
    rw [Mg2 hm, bs, t1, if_neg (nI_ge (by omega) (by omega))]
    cases g with
    | false =>
      rw [if_pos (show bI false = 0 from rfl), xz_b, Bool.false_and]
    | true =>
      have e : b8 (gA σ 1 k) = b k := by
        rw [← t4]
        unfold cb
        rw [if_pos (by omega), Nat.zero_add]
      rw [if_neg (show ¬ bI true = 0 by decide), Mr1 hm, bs, Ma1 hm (by omega), bs, nI_add]
      unfold nzf
      by_cases c : b k = 0
      · rw [if_pos ((isB_0 (t3 k)).mpr (e.trans c)), show nI 0 = bI false from rfl, ih (k + 1) f false (by omega) (by omega), decide_eq_false (fun q => q c)]
        rfl
      · rw [if_neg (fun q => c (e.symm.trans ((isB_0 (t3 k)).mp q))), show nI 1 = bI true from rfl, ih (k + 1) f true (by omega) (by omega), decide_eq_true c, Bool.true_and, Bool.true_and]
theorem q_isTapeName (hm : m ≤ h.length) (ht : RT σ n b) (hF : 8192 < F) : f_M_isTapeName F m (mh m h σ) = some (bI (tnm b n), mh m h σ) := by
  have t1 := ht.1
  have t2 := ht.2.1
  unfold f_M_isTapeName f_M_isTapeName_20 f_M_isTapeName_21 tnm
  rw [Mg2 hm, bs, t1]
  by_cases c1 : 1 ≤ n
  · rw [if_neg (show ¬ nI n ≤ 0 from nI_nle c1 (by omega)), bs, decide_eq_true c1, Bool.true_and]
    by_cases c2 : n ≤ 20
    · rw [if_neg (nI_nlt c2 (by omega)), decide_eq_true c2, show nI 1 = bI true from rfl, q_iT_24 hm ht n 0 F true (by omega) (by omega)]
    · rw [if_pos (nI_lt (by omega) (by omega)), decide_eq_false c2, show nI 0 = bI false from rfl, show bI false = nI 0 from rfl]
      have := q_iT_24 (F := F) hm ht n 0 F false (by omega) (by omega)
      rw [Bool.false_and] at this ⊢
      exact this
  · rw [if_pos (show nI n ≤ 0 from nI_le (b := 0) (by omega) (by omega)), decide_eq_false c1]
    have := q_iT_24 (F := F) hm ht n 0 F false (by omega) (by omega)
    rw [Bool.false_and] at this ⊢
    exact this
variable {ka kb pa pb : Nat} {ws : List (List Nat)} {k3 : Nat → Nat → Nat → Int32 → Int32 → px_H → Option (Int32 × px_H)}
theorem q_tA_30f (hm : m ≤ h.length) (ht : RT σ n b) {i k f : Nat} {z : Int32} (hf : 0 < f) : f_M_toldAt_30 F k3 f m pa pb z (nI i) (bI false) (nI k) (mh m h σ) = k3 m pa pb z (nI i + nI 1) (mh m h σ) := by
  obtain ⟨f, rfl⟩ : ∃ x, f = x + 1 := ⟨f - 1, by omega⟩
  unfold f_M_toldAt_30 f_M_toldAt_77
  rw [Mg2 hm, bs, if_pos (show bI false = 0 from rfl)]
  split
  · rfl
  · rfl
theorem q_tA_30 (hm : m ≤ h.length) (ht : RT σ n b) (hn : n ≤ 20) (hA : ∀ i, i < 320 → xaI (mh m h σ) 0 pa (nI i) = some (gA σ ka i)) {i : Nat} {z : Int32} (hi : i < 16) : ∀ (d k f : Nat), k + d = n → d < f → f_M_toldAt_30 F k3 f m pa pb z (nI i) (bI true) (nI k) (mh m h σ) = (if eqb (gA σ ka) (gA σ 1) (20 * i) k d = true then some (nI i, mh m h σ) else k3 m pa pb z (nI (i + 1)) (mh m h σ)) := by
  intro d
  have t1 := ht.1
  induction d with
  | zero =>
    intro k f hk hf
    obtain ⟨f, rfl⟩ : ∃ x, f = x + 1 := ⟨f - 1, by omega⟩
    unfold f_M_toldAt_30 f_M_toldAt_77 f_M_toldAt_82 eqb
    rw [Mg2 hm, bs, t1, if_pos (nI_le (by omega) (by omega)), if_neg (show ¬ bI true = 0 by decide), if_pos rfl]
  | succ d ih =>
    intro k f hk hf
    obtain ⟨f, rfl⟩ : ∃ x, f = x + 1 := ⟨f - 1, by omega⟩
    unfold f_M_toldAt_30 f_M_toldAt_69 eqb
    rw [Mg2 hm, bs, t1, if_neg (nI_ge (by omega) (by omega)), if_neg (show ¬ bI true = 0 by decide), pk_mul, nI_add, hA _ (by omega), bs, Mr1 hm, bs, Ma1 hm (by omega), bs, nI_add]
    by_cases c : gA σ ka (20 * i + k) = gA σ 1 k
    · rw [if_pos c, show nI 1 = bI true from rfl, ih (k + 1) f (by omega) (by omega), decide_eq_true c, Bool.true_and]
    · rw [if_neg c, show nI 0 = bI false from rfl, q_tA_30f hm ht (by omega), decide_eq_false c, Bool.false_and, if_neg (by decide), nI_add]
theorem told_iff (ht : RT σ n b) (hr : RN σ ka kb ws) {i : Nat} {w : List Nat} (hw : ws[i]? = some w) : (w.length = n ∧ eqb (gA σ ka) (gA σ 1) (20 * i) 0 n = true) ↔ w = tk b 0 n := by
  obtain ⟨t1, t2, t3, t4⟩ := ht
  obtain ⟨ok, e1, e2⟩ := hr.2 i w hw
  have eb : ∀ j, j < n → b8 (gA σ 1 j) = b j := by
    intro j hj
    rw [← t4]
    unfold cb
    rw [if_pos hj, Nat.zero_add]
  rw [eqb_iff]
  constructor
  · intro hh
    apply List.ext_getElem?
    intro j
    by_cases c : j < n
    · rw [tk_get b 0 n j c, Nat.zero_add]
      obtain ⟨x, hx⟩ : ∃ x, w[j]? = some x := ⟨w[j]'(by omega), List.getElem?_eq_getElem (by omega)⟩
      rw [hx]
      have e3 := hh.2 j (by omega) (by omega)
      rw [e2 j x hx] at e3
      rw [(isB_inj (t3 j) (ok.2 x (List.mem_of_getElem? hx))).mp e3, eb j c]
    · rw [List.getElem?_eq_none (by omega), List.getElem?_eq_none (by rw [tk_len]; omega)]
  · intro hh
    have hl : w.length = n := by rw [hh, tk_len]
    refine ⟨hl, fun j _ hj => ?_⟩
    have hx : w[j]? = some (b j) := by
      rw [hh, tk_get b 0 n j (by omega), Nat.zero_add]
    rw [e2 j _ hx]
    exact (isB_inj (t3 j) (ok.2 _ (List.mem_of_getElem? hx))).mpr (eb j (by omega)).symm
theorem q_tA_3 (hm : m ≤ h.length) (ht : RT σ n b) (hn : n ≤ 20) (hF : 20 < F) (hr : RN σ ka kb ws) (hA : ∀ i, i < 320 → xaI (mh m h σ) 0 pa (nI i) = some (gA σ ka i)) (hB : ∀ i, i < 16 → xaI (mh m h σ) 1 pb (nI i) = some (gA σ kb i)) : ∀ (d i f : Nat), i + d = ws.length → d < f → f_M_toldAt_3 F f m pa pb (nI ws.length) (nI i) (mh m h σ) = some (tdA (idx (tk b 0 n) i (ws.drop i)), mh m h σ) := by
  have t1 := ht.1
  have hl := hr.1
  intro d
  induction d with
  | zero =>
    intro i f hi hf
    obtain ⟨f, rfl⟩ : ∃ x, f = x + 1 := ⟨f - 1, by omega⟩
    unfold f_M_toldAt_3 f_M_toldAt_91
    rw [if_pos (nI_le (by omega) (by omega)), List.drop_eq_nil_of_le (by omega)]
    rfl
  | succ d ih =>
    intro i f hi hf
    obtain ⟨f, rfl⟩ : ∃ x, f = x + 1 := ⟨f - 1, by omega⟩
    have hil : i < ws.length := by omega
    obtain ⟨w, hw⟩ : ∃ w, ws[i]? = some w := ⟨ws[i], List.getElem?_eq_getElem hil⟩
    have hd : ws.drop i = w :: ws.drop (i + 1) := by
      rw [List.drop_eq_getElem_cons hil]
      rw [List.getElem?_eq_getElem hil] at hw
      cases hw
      rfl
    obtain ⟨ok, e1, e2⟩ := hr.2 i w hw
    have key := told_iff ht hr hw
    unfold f_M_toldAt_3 f_M_toldAt_25
    rw [if_neg (nI_ge (by omega) (by omega)), hB i (by omega), bs, Mg2 hm, bs, t1, e1, hd]
    unfold idx
    have hok := ok.1
    by_cases c : w.length = n
    · rw [if_pos (by rw [c]), show nI 1 = bI true from rfl, q_tA_30 (i := i) hm ht hn hA (by omega) n 0 F (by omega) (by omega)]
      by_cases c2 : eqb (gA σ ka) (gA σ 1) (20 * i) 0 n = true
      · rw [if_pos c2, if_pos (key.mp ⟨c, c2⟩)]
        rfl
      · rw [if_neg c2, if_neg (fun q => c2 (key.mpr q).2), ih (i + 1) f (by omega) (by omega)]
    · rw [if_neg (fun q => c ((nI_eq (by omega) (by omega)).mp q)), show nI 0 = bI false from rfl, show bI false = nI 0 from rfl, if_neg (fun q => c (key.mpr q).1)]
      have := q_tA_30f (F := F) (pa := pa) (pb := pb) (k3 := f_M_toldAt_3 F f) (i := i) (k := 0) (z := nI ws.length) hm ht (f := F) (by omega)
      rw [show nI 0 = bI false from rfl]
      rw [show nI 0 = bI false from rfl] at this
      rw [this, nI_add, ih (i + 1) f (by omega) (by omega)]
theorem q_toldAt (hm : m ≤ h.length) (ht : RT σ n b) (hn : n ≤ 20) (hF : 20 < F) (hr : RN σ ka kb ws) (hA : ∀ i, i < 320 → xaI (mh m h σ) 0 pa (nI i) = some (gA σ ka i)) (hB : ∀ i, i < 16 → xaI (mh m h σ) 1 pb (nI i) = some (gA σ kb i)) : f_M_toldAt F m pa pb (nI ws.length) (mh m h σ) = some (tdA (idx (tk b 0 n) 0 ws), mh m h σ) := by
  have := hr.1
  unfold f_M_toldAt
  rw [q_tA_3 hm ht hn hF hr hA hB ws.length 0 F (by omega) (by omega), List.drop_zero]
end TLD
