/-! files: archives, and what the reference makes of a tape -/
def isDg (x : Nat) : Bool := decide (48 ≤ x ∧ x ≤ 57)
/-- how many digits from p on, at most c -/
def dr (b : Nat → Nat) : Nat → Nat → Nat
  | _, 0 => 0
  | p, c + 1 => if isDg (b p) = true then dr b (p + 1) c + 1 else 0
/-- the number of k digits from p on, behind v -/
def dv (b : Nat → Nat) : Nat → Nat → Nat → Nat
  | _, 0, v => v
  | p, k + 1, v => dv b (p + 1) k (10 * v + (b p - 48))
theorem dr_le (b : Nat → Nat) : ∀ (c p : Nat), dr b p c ≤ c
  | 0, _ => Nat.le_refl _
  | c + 1, p => by
    unfold dr
    split
    · have := dr_le b c (p + 1); omega
    · omega
theorem dr_s (b : Nat → Nat) (p c : Nat) : dr b p (c + 1) = if isDg (b p) = true then dr b (p + 1) c + 1 else 0 := rfl
theorem dv_s (b : Nat → Nat) (p k v : Nat) : dv b p (k + 1) v = dv b (p + 1) k (10 * v + (b p - 48)) := rfl
/-- how many digits the size of the member at p has, and the size -/
def aK (b : Nat → Nat) (p : Nat) : Nat := dr b (p + 48) 10
def aV (b : Nat → Nat) (p : Nat) : Nat := dv b (p + 48) (aK b p) 0
/-- the member at p is as told, of a file of n bytes -/
def aOK (b : Nat → Nat) (n p : Nat) : Bool := decide (p + 60 ≤ n ∧ b (p + 58) = 96 ∧ b (p + 59) = 10 ∧ 1 ≤ aK b p) && al (fun x => decide (b x = 32)) (p + 48 + aK b p) (10 - aK b p) && decide (p + 60 + aV b p ≤ n ∧ (aV b p % 2 = 0 ∨ p + 60 + aV b p < n ∧ b (p + 60 + aV b p) = 10))
def aX (b : Nat → Nat) (p : Nat) : Nat := p + 60 + aV b p + aV b p % 2
/-- the members from p on, c at most: where the bytes of each begin, how many, whether it counts for nothing -/
def ams (b : Nat → Nat) (n : Nat) : Nat → Nat → Option (List (Nat × Nat × Bool))
  | 0, p => if n ≤ p then some [] else none
  | c + 1, p => if n ≤ p then some [] else if aOK b n p = true then (ams b n c (aX b p)).map (fun l => (p + 60, aV b p, decide (b p = 47)) :: l) else none
theorem ams_s (b : Nat → Nat) (n c p : Nat) : ams b n (c + 1) p = if n ≤ p then some [] else if aOK b n p = true then (ams b n c (aX b p)).map (fun l => (p + 60, aV b p, decide (b p = 47)) :: l) else none := rfl
theorem dv_lt {b : Nat → Nat} (hb : ∀ k, b k < 256) : ∀ (k p v : Nat), (∀ x, p ≤ x → x < p + k → b x ≤ 57) → dv b p k v < (v + 1) * 10 ^ k
  | 0, p, v, _ => by unfold dv; rw [Nat.pow_zero]; omega
  | k + 1, p, v, h => by
    rw [dv_s]
    have h1 := dv_lt hb k (p + 1) (10 * v + (b p - 48)) (fun x h1 h2 => h x (by omega) (by omega))
    have h2 := h p (Nat.le_refl _) (by omega)
    refine Nat.lt_of_lt_of_le h1 ?_
    rw [Nat.pow_succ, Nat.mul_comm (10 ^ k) 10, ← Nat.mul_assoc]
    exact Nat.mul_le_mul_right _ (by omega)
theorem dr_dg {b : Nat → Nat} : ∀ (c p x : Nat), p ≤ x → x < p + dr b p c → isDg (b x) = true
  | 0, p, x, h1, h2 => by unfold dr at h2; omega
  | c + 1, p, x, h1, h2 => by
    rw [dr_s] at h2
    by_cases e : isDg (b p) = true
    · rw [if_pos e] at h2
      by_cases ex : x = p
      · rw [ex]; exact e
      · exact dr_dg c (p + 1) x (by omega) (by omega)
    · rw [if_neg e] at h2; omega
theorem aV_lt {b : Nat → Nat} (hb : ∀ k, b k < 256) (p : Nat) : aV b p < 10 ^ 10 := by
  have h1 := dv_lt hb (aK b p) (p + 48) 0 (fun x h1 h2 => (of_decide_eq_true (dr_dg 10 (p + 48) x h1 h2)).2)
  have h2 : (0 + 1) * 10 ^ aK b p ≤ 10 ^ 10 := by
    rw [Nat.zero_add, Nat.one_mul]
    exact Nat.pow_le_pow_right (by decide) (dr_le b 10 (p + 48))
  exact Nat.lt_of_lt_of_le h1 h2
section MEM
variable {F : Nat} {h : px_H} {m f n : Nat}
theorem b8_neg {x : Int32} (h : isB x) : x.toInt64 = if b8 x < 128 then lN (b8 x) else lN (b8 x) - lN 256 := by
  have h1 := isB_T h
  have h2 := b8_lt x
  apply Int64.toInt_inj.mp
  rw [Int32.toInt_toInt64, h1]
  by_cases c : b8 x < 128
  · rw [if_pos c, if_pos c, pk_lT (by omega)]
  · rw [if_neg c, if_neg c]
    have : ∀ y, y < 256 → 128 ≤ y → (lN y - lN 256).toInt = (y : Int) - 256 := by decide +kernel
    rw [this _ h2 (by omega)]
/-- the reference's heap holds the bytes of a file at f -/
def fb (σ : px_S) (f n : Nat) : Nat → Nat := cb (gA σ 6) (8192 * f) n
section M76
variable {k : Nat → Int32 → Int32 → Int32 → px_H → Option (Int32 × px_H)} {p : Nat} {σ : px_S}
theorem q_isMembers_159 (hm : m ≤ h.length) (hB : ∀ k, isB (gA σ 6 k)) (hf : f < 8) (hp : p + 60 ≤ n) (hn : n ≤ 8192) (v : Int64) : ∀ (c j g : Nat), j + c = 10 → c < g → f_M_isMembers_159 F k g m (nI f) (nI n) (nI p) (nI (8192 * f + p)) v (nI j) (mh m h σ) = if al (fun x => decide (fb σ f n x = 32)) (p + 48 + j) c = true then f_M_isMembers_192 F k m (nI f) (nI n) (nI p) (nI (8192 * f + p)) v (mh m h σ) else some (nI 0, mh m h σ) := by
  intro c
  induction c with
  | zero =>
    intro j g hj hg
    obtain ⟨g, rfl⟩ : ∃ x, g = x + 1 := ⟨g - 1, by omega⟩
    unfold f_M_isMembers_159
    rw [if_pos (nI_le (by omega) (by omega))]
    rfl
  | succ c ih =>
    intro j g hj hg
    obtain ⟨g, rfl⟩ : ∃ x, g = x + 1 := ⟨g - 1, by omega⟩
    unfold f_M_isMembers_159
    rw [if_neg (nI_ge (by omega) (by omega)), Mr6 hm, bs, nI_add, nI_add, nI_add, Ma6 hm (by omega), bs, al_s, ih (j + 1) g (by omega) (by omega)]
    simp only [isB_eq (hB (8192 * f + p + 48 + j)) (show 32 < 128 by decide)]
    have e : fb σ f n (p + 48 + j) = b8 (gA σ 6 (8192 * f + p + 48 + j)) := by
      unfold fb
      rw [cb_at (by omega)]
      congr 2
      omega
    rw [e, show p + 48 + (j + 1) = p + 48 + j + 1 by omega]
    by_cases c1 : b8 (gA σ 6 (8192 * f + p + 48 + j)) = 32
    · rw [if_pos c1, decide_eq_true c1, Bool.true_and]
    · rw [if_neg c1, decide_eq_false c1, Bool.false_and]
      rfl
theorem q_isMembers_76 (hm : m ≤ h.length) (hB : ∀ k, isB (gA σ 6 k)) (hF : 10 < F) (hf : f < 8) (hp : p + 60 ≤ n) (hn : n ≤ 8192) : ∀ (c j g v : Nat), j + c = 10 → c < g → (v + 1) * 10 ^ c ≤ 10 ^ 10 → f_M_isMembers_76 F k g m (nI f) (nI n) (nI p) (nI (8192 * f + p)) (lN v) (nI j) (mh m h σ) = f_M_isMembers_152 F k m (nI f) (nI n) (nI p) (nI (8192 * f + p)) (lN (dv (fb σ f n) (p + 48 + j) (dr (fb σ f n) (p + 48 + j) c) v)) (nI (j + dr (fb σ f n) (p + 48 + j) c)) (mh m h σ) := by
  intro c
  induction c with
  | zero =>
    intro j g v hj hg hv
    obtain ⟨g, rfl⟩ : ∃ x, g = x + 1 := ⟨g - 1, by omega⟩
    unfold f_M_isMembers_76
    rw [if_pos (nI_le (by omega) (by omega))]
    rfl
  | succ c ih =>
    intro j g v hj hg hv
    obtain ⟨g, rfl⟩ : ∃ x, g = x + 1 := ⟨g - 1, by omega⟩
    unfold f_M_isMembers_76
    rw [if_neg (nI_ge (by omega) (by omega))]
    simp only [Mr6 hm, bs, nI_add, Ma6 hm (show 8192 * f + p + 48 + j < 65536 by omega)]
    have hb := hB (8192 * f + p + 48 + j)
    simp only [isB_lt hb (show 48 < 128 by decide), isB_gt hb (show 57 < 128 by decide)]
    have e : fb σ f n (p + 48 + j) = b8 (gA σ 6 (8192 * f + p + 48 + j)) := by
      unfold fb
      rw [cb_at (by omega)]
      congr 2
      omega
    rw [dr_s, e]
    by_cases c1 : b8 (gA σ 6 (8192 * f + p + 48 + j)) < 48 ∨ 128 ≤ b8 (gA σ 6 (8192 * f + p + 48 + j))
    · rw [if_pos c1, if_neg (fun q => by have := of_decide_eq_true q; omega)]
      rfl
    · rw [if_neg c1]
      by_cases c2 : 57 < b8 (gA σ 6 (8192 * f + p + 48 + j)) ∧ b8 (gA σ 6 (8192 * f + p + 48 + j)) < 128
      · rw [if_pos c2, if_neg (fun q => by have := of_decide_eq_true q; omega)]
        rfl
      · have c3 : 48 ≤ b8 (gA σ 6 (8192 * f + p + 48 + j)) ∧ b8 (gA σ 6 (8192 * f + p + 48 + j)) ≤ 57 := by omega
        have e3 : (v + 1) * 10 ^ (c + 1) = (v + 1) * 10 * 10 ^ c := by rw [Nat.pow_succ, Nat.mul_comm (10 ^ c), Nat.mul_assoc]
        rw [if_neg c2, if_pos (show isDg (b8 (gA σ 6 (8192 * f + p + 48 + j))) = true from decide_eq_true c3), dv_s, e, b8_neg hb, if_pos (by omega), show (10 : Int64) = lN 10 from rfl, show (48 : Int64) = lN 48 from rfl, lN_mul, lN_add, lN_sub (by omega), ih (j + 1) g _ (by omega) (by omega) (by
          refine Nat.le_trans (Nat.mul_le_mul_right _ (?_ : _ ≤ (v + 1) * 10)) (by rw [← e3]; exact hv)
          omega)]
        rw [show p + 48 + (j + 1) = p + 48 + j + 1 by omega, show 10 * v + b8 (gA σ 6 (8192 * f + p + 48 + j)) - 48 = 10 * v + (b8 (gA σ 6 (8192 * f + p + 48 + j)) - 48) by omega, show j + 1 + dr (fb σ f n) (p + 48 + j + 1) c = j + (dr (fb σ f n) (p + 48 + j + 1) c + 1) by omega]
end M76
theorem aOK_p {b : Nat → Nat} {n p : Nat} (hq : aOK b n p = true) : p + 60 ≤ n ∧ b (p + 58) = 96 ∧ b (p + 59) = 10 ∧ 1 ≤ aK b p ∧ p + 60 + aV b p ≤ n ∧ (aV b p % 2 = 0 ∨ p + 60 + aV b p < n ∧ b (p + 60 + aV b p) = 10) := by
  unfold aOK at hq
  have h1 := (Bool.and_eq_true _ _).mp hq
  have h2 := (Bool.and_eq_true _ _).mp h1.1
  have h3 := of_decide_eq_true h2.1
  have h4 := of_decide_eq_true h1.2
  exact ⟨h3.1, h3.2.1, h3.2.2.1, h3.2.2.2, h4.1, h4.2⟩
/-- what the rows say of the members from the c-th on -/
def mrow (σ : px_S) (f : Nat) : Nat → List (Nat × Nat × Bool) → Prop
  | _, [] => True
  | c, x :: l => (gA σ 9 (8 * f + c) = nI (8192 * f + x.1) ∧ gA σ 10 (8 * f + c) = nI x.2.1 ∧ gA σ 12 (8 * f + c) = bI x.2.2) ∧ mrow σ f (c + 1) l
/-- nothing has changed but the rows of file f, and inGroup -/
def mfr (f : Nat) (σ σ' : px_S) : Prop := (∀ k, gI σ' k = gI σ k) ∧ (∀ k, gJ σ' k = gJ σ k) ∧ (∀ k, gB σ' k = gB σ k) ∧ (∀ k, k ≠ 8 → k ≠ 9 → k ≠ 10 → k ≠ 11 → k ≠ 12 → k ≠ 96 → gA σ' k = gA σ k) ∧ (∀ i, i ≠ f → gA σ' 8 i = gA σ 8 i ∧ gA σ' 11 i = gA σ 11 i) ∧ (∀ i, (i < 8 * f ∨ 8 * f + 8 ≤ i) → gA σ' 9 i = gA σ 9 i ∧ gA σ' 10 i = gA σ 10 i ∧ gA σ' 12 i = gA σ 12 i)
theorem mfr_refl (f : Nat) (σ : px_S) : mfr f σ σ := ⟨fun _ => rfl, fun _ => rfl, fun _ => rfl, fun _ _ _ _ _ _ _ => rfl, fun _ _ => ⟨rfl, rfl⟩, fun _ _ => ⟨rfl, rfl, rfl⟩⟩
theorem mfr_trans {f : Nat} {σ σ' σ'' : px_S} (h1 : mfr f σ σ') (h2 : mfr f σ' σ'') : mfr f σ σ'' := ⟨fun k => (h2.1 k).trans (h1.1 k), fun k => (h2.2.1 k).trans (h1.2.1 k), fun k => (h2.2.2.1 k).trans (h1.2.2.1 k), fun k a b c d e g => (h2.2.2.2.1 k a b c d e g).trans (h1.2.2.2.1 k a b c d e g), fun i hi => ⟨((h2.2.2.2.2.1 i hi).1).trans (h1.2.2.2.2.1 i hi).1, ((h2.2.2.2.2.1 i hi).2).trans (h1.2.2.2.2.1 i hi).2⟩, fun i hi => ⟨((h2.2.2.2.2.2 i hi).1).trans (h1.2.2.2.2.2 i hi).1, ((h2.2.2.2.2.2 i hi).2.1).trans (h1.2.2.2.2.2 i hi).2.1, ((h2.2.2.2.2.2 i hi).2.2).trans (h1.2.2.2.2.2 i hi).2.2⟩⟩
theorem mfr_96 (f : Nat) (σ : px_S) (g : Nat → Int32) : mfr f σ (sA σ 96 g) := ⟨fun _ => rfl, fun _ => rfl, fun _ => rfl, fun k _ _ _ _ _ h => by rw [gA_sA, if_neg h], fun _ _ => ⟨rfl, rfl⟩, fun _ _ => ⟨rfl, rfl, rfl⟩⟩
theorem upd_ne {g : Nat → Int32} {i j : Nat} {v : Int32} (h : j ≠ i) : upd g i v j = g j := if_neg h
theorem upd_eq {g : Nat → Int32} {i : Nat} {v : Int32} : upd g i v i = v := if_pos rfl
/-- one member's row -/
def mput (σ : px_S) (f c a s : Nat) (z : Bool) : px_S := sA (sA (sA (sA σ 9 (upd (gA σ 9) (8 * f + c) (nI a))) 10 (upd (gA σ 10) (8 * f + c) (nI s))) 12 (upd (gA σ 12) (8 * f + c) (bI z))) 8 (upd (gA σ 8) f (nI (c + 1)))
theorem mput_fr {σ : px_S} {f c a s : Nat} {z : Bool} (hc : c < 8) : mfr f σ (mput σ f c a s z) := by
  refine ⟨fun _ => rfl, fun _ => rfl, fun _ => rfl, ?_, ?_, ?_⟩
  · intro k h8 h9 h10 _ h12 _
    unfold mput
    rw [gA_sA, if_neg h8, gA_sA, if_neg h12, gA_sA, if_neg h10, gA_sA, if_neg h9]
  · intro i hi
    refine ⟨?_, rfl⟩
    show upd (gA σ 8) f (nI (c + 1)) i = _
    exact upd_ne hi
  · intro i hi
    have : i ≠ 8 * f + c := by omega
    exact ⟨upd_ne this, upd_ne this, upd_ne this⟩
theorem mrow_put {σ : px_S} {f c a s d : Nat} {z : Bool} (hd : c < d) : ∀ (l : List (Nat × Nat × Bool)), mrow (mput σ f c a s z) f d l ↔ mrow σ f d l := by
  intro l
  induction l generalizing d with
  | nil => exact Iff.rfl
  | cons x l ih =>
    unfold mrow
    have e : 8 * f + d ≠ 8 * f + c := by omega
    have e1 : gA (mput σ f c a s z) 9 (8 * f + d) = gA σ 9 (8 * f + d) := upd_ne e
    have e2 : gA (mput σ f c a s z) 10 (8 * f + d) = gA σ 10 (8 * f + d) := upd_ne e
    have e3 : gA (mput σ f c a s z) 12 (8 * f + d) = gA σ 12 (8 * f + d) := upd_ne e
    rw [e1, e2, e3, ih (by omega)]
theorem ite_b {α : Type} {P : Prop} [Decidable P] {q : Bool} (hq : P ↔ q = true) (G : Int32 → α) : (if P then G (nI 1) else G (nI 0)) = G (bI q) := by
  by_cases c : P
  · rw [if_pos c, hq.mp c]; rfl
  · rw [if_neg c, Bool.eq_false_iff.mpr (fun e => c (hq.mpr e))]; rfl
theorem aOK_not {b : Nat → Nat} {n p : Nat} (h : ¬ (p + 60 ≤ n ∧ b (p + 58) = 96 ∧ b (p + 59) = 10 ∧ 1 ≤ aK b p ∧ al (fun x => decide (b x = 32)) (p + 48 + aK b p) (10 - aK b p) = true ∧ p + 60 + aV b p ≤ n ∧ (aV b p % 2 = 0 ∨ p + 60 + aV b p < n ∧ b (p + 60 + aV b p) = 10))) : aOK b n p = false := by
  cases hq : aOK b n p with
  | false => rfl
  | true =>
    exfalso
    apply h
    have h5 := aOK_p hq
    unfold aOK at hq
    have h1 := (Bool.and_eq_true _ _).mp hq
    have h2 := (Bool.and_eq_true _ _).mp h1.1
    exact ⟨h5.1, h5.2.1, h5.2.2.1, h5.2.2.2.1, h2.2, h5.2.2.2.2.1, h5.2.2.2.2.2⟩
theorem aOK_yes {b : Nat → Nat} {n p : Nat} (h : p + 60 ≤ n ∧ b (p + 58) = 96 ∧ b (p + 59) = 10 ∧ 1 ≤ aK b p ∧ al (fun x => decide (b x = 32)) (p + 48 + aK b p) (10 - aK b p) = true ∧ p + 60 + aV b p ≤ n ∧ (aV b p % 2 = 0 ∨ p + 60 + aV b p < n ∧ b (p + 60 + aV b p) = 10)) : aOK b n p = true := by
  unfold aOK
  rw [decide_eq_true (show p + 60 ≤ n ∧ b (p + 58) = 96 ∧ b (p + 59) = 10 ∧ 1 ≤ aK b p from ⟨h.1, h.2.1, h.2.2.1, h.2.2.2.1⟩), h.2.2.2.2.1, decide_eq_true h.2.2.2.2.2]
  rfl
theorem q_isMembers_3 (hF : 10 < F) (hf : f < 8) (hn : n ≤ 8192) : ∀ (c d p g : Nat) (σ : px_S), m ≤ h.length → (∀ k, isB (gA σ 6 k)) → gA σ 8 f = nI d → c + d = 8 → p ≤ n → c < g → ∃ σ', mfr f σ σ' ∧ (∀ i, i < 8 * f + d → gA σ' 9 i = gA σ 9 i ∧ gA σ' 10 i = gA σ 10 i ∧ gA σ' 12 i = gA σ 12 i) ∧ (∀ i, gA σ' 11 i = gA σ 11 i) ∧ f_M_isMembers_3 F g m (nI f) (nI n) (nI p) (mh m h σ) = some (bI (ams (fb σ f n) n c p).isSome, mh m h σ') ∧ ∀ l, ams (fb σ f n) n c p = some l → mrow σ' f d l ∧ gA σ' 8 f = nI (d + l.length) := by
  intro c
  induction c with
  | zero =>
    intro d p g σ hm hB hd hc hp hg
    obtain ⟨g, rfl⟩ : ∃ x, g = x + 1 := ⟨g - 1, by omega⟩
    refine ⟨σ, mfr_refl f σ, fun _ _ => ⟨rfl, rfl, rfl⟩, fun _ => rfl, ?_, ?_⟩
    · unfold f_M_isMembers_3 ams
      by_cases c1 : n ≤ p
      · rw [if_pos (nI_le c1 (by omega)), if_pos c1]
        rfl
      · rw [if_neg (nI_ge (by omega) (by omega)), if_neg c1, Mr8 hm, bs, Ma8 hm hf, bs, hd, show d = 8 by omega, if_pos rfl]
        rfl
    · intro l hl
      unfold ams at hl
      by_cases c1 : n ≤ p
      · rw [if_pos c1] at hl
        cases hl
        exact ⟨trivial, hd⟩
      · rw [if_neg c1] at hl; cases hl
  | succ c ih =>
    intro d p g σ hm hB hd hc hp hg
    obtain ⟨g, rfl⟩ : ∃ x, g = x + 1 := ⟨g - 1, by omega⟩
    unfold f_M_isMembers_3
    rw [ams_s]
    by_cases c1 : n ≤ p
    · refine ⟨σ, mfr_refl f σ, fun _ _ => ⟨rfl, rfl, rfl⟩, fun _ => rfl, ?_, ?_⟩
      · rw [if_pos (nI_le c1 (by omega)), if_pos c1]
        rfl
      · intro l hl
        rw [if_pos c1] at hl
        cases hl
        exact ⟨trivial, hd⟩
    · have hbV := aV_lt (cb_lt (gA σ 6) (8192 * f) n) p
      have eb : ∀ x, x < n → fb σ f n x = b8 (gA σ 6 (8192 * f + x)) := fun _ hx => cb_at hx
      rw [if_neg (nI_ge (by omega) (by omega)), if_neg c1, Mr8 hm, bs, Ma8 hm hf, bs, hd, if_neg (show ¬ nI d = nI 8 by rw [nI_eq (by omega) (by decide)]; omega), pk_mul, nI_add, nI_add, nI_add, nI_add]
      have bad : aOK (fb σ f n) n p = false → ∃ σ', mfr f σ σ' ∧ (∀ i, i < 8 * f + d → gA σ' 9 i = gA σ 9 i ∧ gA σ' 10 i = gA σ 10 i ∧ gA σ' 12 i = gA σ 12 i) ∧ (∀ i, gA σ' 11 i = gA σ 11 i) ∧ (some (nI 0, mh m h σ) : Option (Int32 × px_H)) = some (bI (if aOK (fb σ f n) n p = true then (ams (fb σ f n) n c (aX (fb σ f n) p)).map (fun l => (p + 60, aV (fb σ f n) p, decide (fb σ f n p = 47)) :: l) else none).isSome, mh m h σ') ∧ ∀ l, (if aOK (fb σ f n) n p = true then (ams (fb σ f n) n c (aX (fb σ f n) p)).map (fun l => (p + 60, aV (fb σ f n) p, decide (fb σ f n p = 47)) :: l) else none) = some l → mrow σ' f d l ∧ gA σ' 8 f = nI (d + l.length) := by
        intro hbad
        rw [hbad, if_neg (by decide)]
        exact ⟨σ, mfr_refl f σ, fun _ _ => ⟨rfl, rfl, rfl⟩, fun _ => rfl, rfl, fun l hl => nomatch hl⟩
      by_cases c2 : p + 60 ≤ n
      · rw [if_pos (nI_le c2 (by omega)), Mr6 hm, bs, Ma6 hm (by omega), bs]
        simp only [isB_eq (hB (8192 * f + p + 58)) (show 96 < 128 by decide)]
        by_cases c3 : b8 (gA σ 6 (8192 * f + p + 58)) = 96
        · rw [if_pos c3, bs, Ma6 hm (by omega), bs]
          simp only [isB_eq (hB (8192 * f + p + 59)) (show 10 < 128 by decide)]
          by_cases c4 : b8 (gA σ 6 (8192 * f + p + 59)) = 10
          · rw [if_pos c4, q_isMembers_76 hm hB hF hf c2 hn 10 0 F 0 rfl hF (by decide), f_M_isMembers_152, Nat.add_zero, Nat.zero_add, show dr (fb σ f n) (p + 48) 10 = aK (fb σ f n) p from rfl, show dv (fb σ f n) (p + 48) (aK (fb σ f n) p) 0 = aV (fb σ f n) p from rfl, show (0 : Int32) = nI 0 from rfl]
            have hK : aK (fb σ f n) p ≤ 10 := dr_le _ _ _
            simp only [nI_eq (show aK (fb σ f n) p < 2 ^ 31 by omega) (show 0 < 2 ^ 31 by decide)]
            by_cases c5 : aK (fb σ f n) p = 0
            · rw [if_pos c5]
              exact bad (aOK_not (fun q => by have := q.2.2.2.1; omega))
            · rw [if_neg c5, q_isMembers_159 hm hB hf c2 hn _ (10 - aK (fb σ f n) p) (aK (fb σ f n) p) F (by omega) (by omega)]
              by_cases c6 : al (fun x => decide (fb σ f n x = 32)) (p + 48 + aK (fb σ f n) p) (10 - aK (fb σ f n) p) = true
              · rw [if_pos c6]
                unfold f_M_isMembers_192
                rw [nI_add, pk_sub c2, nI_l (by omega)]
                simp only [pk_lLE (show aV (fb σ f n) p < 2 ^ 63 from Nat.lt_of_lt_of_le hbV (by decide)) (show n - (p + 60) < 2 ^ 63 by omega)]
                by_cases c7 : aV (fb σ f n) p ≤ n - (p + 60)
                · have hV : aV (fb σ f n) p ≤ 8192 := by omega
                  rw [if_pos c7, Mr8 hm, bs, Ma8 hm hf, bs, hd, Mr9 hm, bs, pk_mul, nI_add, pk_mul, nI_add, Ms9 hm (by omega), bs, Mr10 hm, bs, lN_i, Ms10 hm (by omega), bs, Mr12 hm, bs, Mr6 hm, bs, Ma6 hm (by omega), bs]
                  have e47 : gA (sA (sA σ 9 (upd (gA σ 9) (8 * f + d) (nI (8192 * f + (p + 60))))) 10 (upd (gA (sA σ 9 (upd (gA σ 9) (8 * f + d) (nI (8192 * f + (p + 60))))) 10) (8 * f + d) (nI (aV (fb σ f n) p)))) 6 (8192 * f + p) = nI 47 ↔ decide (fb σ f n p = 47) = true := (isB_eq (hB (8192 * f + p)) (show 47 < 128 by decide)).trans (by rw [decide_eq_true_iff, eb p (by omega)])
                  rw [ite_b e47 (fun w => f_M_isMembers_267 F (f_M_isMembers_3 F g) m (nI f) (nI n) (nI (p + 60)) (lN (aV (fb σ f n) p)) (m + 9) (nI (8 * f + d)) w (mh m h (sA (sA σ 9 (upd (gA σ 9) (8 * f + d) (nI (8192 * f + (p + 60))))) 10 (upd (gA (sA σ 9 (upd (gA σ 9) (8 * f + d) (nI (8192 * f + (p + 60))))) 10) (8 * f + d) (nI (aV (fb σ f n) p))))))]
                  unfold f_M_isMembers_267
                  rw [z_and, Ms12 hm (by omega), bs, Mr8 hm, bs, Ma8 hm hf, bs, show gA (sA (sA (sA σ 9 (upd (gA σ 9) (8 * f + d) (nI (8192 * f + (p + 60))))) 10 (upd (gA (sA σ 9 (upd (gA σ 9) (8 * f + d) (nI (8192 * f + (p + 60))))) 10) (8 * f + d) (nI (aV (fb σ f n) p)))) 12 (upd (gA (sA (sA σ 9 (upd (gA σ 9) (8 * f + d) (nI (8192 * f + (p + 60))))) 10 (upd (gA (sA σ 9 (upd (gA σ 9) (8 * f + d) (nI (8192 * f + (p + 60))))) 10) (8 * f + d) (nI (aV (fb σ f n) p)))) 12) (8 * f + d) (bI (decide (fb σ f n p = 47))))) 8 f = nI d from hd, nI_add, Ms8 hm hf, bs]
                  rw [show sA (sA (sA (sA σ 9 (upd (gA σ 9) (8 * f + d) (nI (8192 * f + (p + 60))))) 10 (upd (gA (sA σ 9 (upd (gA σ 9) (8 * f + d) (nI (8192 * f + (p + 60))))) 10) (8 * f + d) (nI (aV (fb σ f n) p)))) 12 (upd (gA (sA (sA σ 9 (upd (gA σ 9) (8 * f + d) (nI (8192 * f + (p + 60))))) 10 (upd (gA (sA σ 9 (upd (gA σ 9) (8 * f + d) (nI (8192 * f + (p + 60))))) 10) (8 * f + d) (nI (aV (fb σ f n) p)))) 12) (8 * f + d) (bI (decide (fb σ f n p = 47))))) 8 (upd (gA (sA (sA (sA σ 9 (upd (gA σ 9) (8 * f + d) (nI (8192 * f + (p + 60))))) 10 (upd (gA (sA σ 9 (upd (gA σ 9) (8 * f + d) (nI (8192 * f + (p + 60))))) 10) (8 * f + d) (nI (aV (fb σ f n) p)))) 12 (upd (gA (sA (sA σ 9 (upd (gA σ 9) (8 * f + d) (nI (8192 * f + (p + 60))))) 10 (upd (gA (sA σ 9 (upd (gA σ 9) (8 * f + d) (nI (8192 * f + (p + 60))))) 10) (8 * f + d) (nI (aV (fb σ f n) p)))) 12) (8 * f + d) (bI (decide (fb σ f n p = 47))))) 8) f (nI (d + 1))) = mput σ f d (8192 * f + (p + 60)) (aV (fb σ f n) p) (decide (fb σ f n p = 47)) from rfl]
                  have fr := mput_fr (σ := σ) (f := f) (c := d) (a := 8192 * f + (p + 60)) (s := aV (fb σ f n) p) (z := decide (fb σ f n p = 47)) (by omega)
                  have lo : ∀ i, i < 8 * f + d → gA (mput σ f d (8192 * f + (p + 60)) (aV (fb σ f n) p) (decide (fb σ f n p = 47))) 9 i = gA σ 9 i ∧ gA (mput σ f d (8192 * f + (p + 60)) (aV (fb σ f n) p) (decide (fb σ f n p = 47))) 10 i = gA σ 10 i ∧ gA (mput σ f d (8192 * f + (p + 60)) (aV (fb σ f n) p) (decide (fb σ f n p = 47))) 12 i = gA σ 12 i := fun i hi => ⟨upd_ne (by omega), upd_ne (by omega), upd_ne (by omega)⟩
                  have good : aOK (fb σ f n) n p = true → p + 60 + aV (fb σ f n) p + aV (fb σ f n) p % 2 ≤ n → ∃ σ', mfr f σ σ' ∧ (∀ i, i < 8 * f + d → gA σ' 9 i = gA σ 9 i ∧ gA σ' 10 i = gA σ 10 i ∧ gA σ' 12 i = gA σ 12 i) ∧ (∀ i, gA σ' 11 i = gA σ 11 i) ∧ f_M_isMembers_3 F g m (nI f) (nI n) (nI (aX (fb σ f n) p)) (mh m h (mput σ f d (8192 * f + (p + 60)) (aV (fb σ f n) p) (decide (fb σ f n p = 47)))) = some (bI (if aOK (fb σ f n) n p = true then (ams (fb σ f n) n c (aX (fb σ f n) p)).map (fun l => (p + 60, aV (fb σ f n) p, decide (fb σ f n p = 47)) :: l) else none).isSome, mh m h σ') ∧ ∀ l, (if aOK (fb σ f n) n p = true then (ams (fb σ f n) n c (aX (fb σ f n) p)).map (fun l => (p + 60, aV (fb σ f n) p, decide (fb σ f n p = 47)) :: l) else none) = some l → mrow σ' f d l ∧ gA σ' 8 f = nI (d + l.length) := by
                    intro hok hx
                    obtain ⟨σ', f1, f2, f3, f4, f5⟩ := ih (d + 1) (aX (fb σ f n) p) g (mput σ f d (8192 * f + (p + 60)) (aV (fb σ f n) p) (decide (fb σ f n p = 47))) hm hB upd_eq (by omega) hx (by omega)
                    refine ⟨σ', mfr_trans fr f1, fun i hi => ⟨(f2 i (by omega)).1.trans (lo i hi).1, (f2 i (by omega)).2.1.trans (lo i hi).2.1, (f2 i (by omega)).2.2.trans (lo i hi).2.2⟩, f3, ?_, ?_⟩
                    · rw [f4, if_pos hok, Option.isSome_map]
                      rfl
                    · intro l hl
                      rw [if_pos hok] at hl
                      obtain ⟨l', e1, e2⟩ := Option.map_eq_some_iff.mp hl
                      subst e2
                      have f6 := f5 l' e1
                      refine ⟨⟨⟨?_, ?_, ?_⟩, f6.1⟩, ?_⟩
                      · rw [(f2 (8 * f + d) (by omega)).1]; exact upd_eq
                      · rw [(f2 (8 * f + d) (by omega)).2.1]; exact upd_eq
                      · rw [(f2 (8 * f + d) (by omega)).2.2]; exact upd_eq
                      · rw [f6.2, List.length_cons, Nat.add_assoc, Nat.add_comm 1]
                  have hV63 : aV (fb σ f n) p < 2 ^ 63 := by omega
                  simp only [lk, pk_lRem hV63 (show 0 < 2 by decide) (show 2 < 2 ^ 63 by decide), lEQ (show aV (fb σ f n) p % 2 < 2 ^ 64 by omega) (show 0 < 2 ^ 64 by decide), lN_i, nI_add, pk_mul]
                  by_cases c8 : aV (fb σ f n) p % 2 = 0
                  · rw [if_pos c8]
                    have hx : aX (fb σ f n) p = p + 60 + aV (fb σ f n) p := by unfold aX; omega
                    have hok := aOK_yes (b := fb σ f n) (n := n) (p := p) ⟨c2, by rw [eb _ (by omega)]; exact c3, by rw [eb _ (by omega)]; exact c4, by omega, c6, by omega, Or.inl c8⟩
                    rw [← hx]
                    exact good hok (by omega)
                  · rw [if_neg c8]
                    by_cases c9 : n ≤ p + 60 + aV (fb σ f n) p
                    · rw [if_pos (nI_le c9 (by omega)), aOK_not (fun q => by rcases q.2.2.2.2.2.2 with e | e <;> omega), if_neg (by decide)]
                      exact ⟨_, fr, lo, fun _ => rfl, rfl, fun l hl => nomatch hl⟩
                    · rw [if_neg (nI_ge (by omega) (by omega)), Mr6 hm, bs, Ma6 hm (by omega), bs]
                      have e10 : gA (mput σ f d (8192 * f + (p + 60)) (aV (fb σ f n) p) (decide (fb σ f n p = 47))) 6 (8192 * f + (p + 60 + aV (fb σ f n) p)) = nI 10 ↔ b8 (gA σ 6 (8192 * f + (p + 60 + aV (fb σ f n) p))) = 10 := isB_eq (hB (8192 * f + (p + 60 + aV (fb σ f n) p))) (show 10 < 128 by decide)
                      by_cases c10 : b8 (gA σ 6 (8192 * f + (p + 60 + aV (fb σ f n) p))) = 10
                      · rw [if_pos (e10.mpr c10)]
                        have hx : aX (fb σ f n) p = p + 60 + aV (fb σ f n) p + 1 := by unfold aX; omega
                        have hok := aOK_yes (b := fb σ f n) (n := n) (p := p) ⟨c2, by rw [eb _ (by omega)]; exact c3, by rw [eb _ (by omega)]; exact c4, by omega, c6, by omega, Or.inr ⟨by omega, by rw [eb _ (by omega)]; exact c10⟩⟩
                        rw [← hx]
                        exact good hok (by omega)
                      · rw [if_neg (fun q => c10 (e10.mp q)), aOK_not (fun q => by rcases q.2.2.2.2.2.2 with e | e; omega; exact c10 (by have e2 := e.2; rw [eb _ e.1] at e2; exact e2)), if_neg (by decide)]
                        exact ⟨_, fr, lo, fun _ => rfl, rfl, fun l hl => nomatch hl⟩
                · rw [if_neg c7]
                  exact bad (aOK_not (fun q => c7 (by have := q.2.2.2.2.2.1; omega)))
              · rw [if_neg c6]
                exact bad (aOK_not (fun q => c6 q.2.2.2.2.1))
          · rw [if_neg c4]
            exact bad (aOK_not (fun q => c4 (by have := q.2.2.1; rw [eb _ (by omega)] at this; rw [← this]; congr 2)))
        · rw [if_neg c3]
          exact bad (aOK_not (fun q => c3 (by have := q.2.1; rw [eb _ (by omega)] at this; rw [← this]; congr 2)))
      · rw [if_neg (nI_ge (by omega) (by omega))]
        exact bad (aOK_not (fun q => c2 q.1))
theorem q_isMembers (hF : 10 < F) (hf : f < 8) (hn : n ≤ 8192) (h8 : 8 ≤ n) (σ : px_S) (hm : m ≤ h.length) (hB : ∀ k, isB (gA σ 6 k)) (hd : gA σ 8 f = nI 0) : ∃ σ', mfr f σ σ' ∧ (∀ i, gA σ' 11 i = gA σ 11 i) ∧ f_M_isMembers F m (nI f) (nI n) (mh m h σ) = some (bI (ams (fb σ f n) n 8 8).isSome, mh m h σ') ∧ ∀ l, ams (fb σ f n) n 8 8 = some l → mrow σ' f 0 l ∧ gA σ' 8 f = nI l.length := by
  obtain ⟨σ', f1, f2, f3, f4, f5⟩ := q_isMembers_3 (F := F) (h := h) (m := m) hF hf hn 8 0 8 F σ hm hB hd rfl h8 (by omega)
  refine ⟨σ', f1, f3, f4, fun l hl => ?_⟩
  have := f5 l hl
  rw [Nat.zero_add] at this
  exact this
end MEM
