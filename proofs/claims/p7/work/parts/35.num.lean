/-! numbers of bytes -/
theorem xb_mk {α β : Type} (x : α) (p : px_H) (k : α → px_H → Option β) : xb (some (x, p)) k = k x p := Eq.trans rfl rfl
theorem bs {α β : Type} (x : α) (k : α → Option β) : (some x).bind k = k x := Eq.trans rfl rfl
theorem lk (n : Nat) : (OfNat.ofNat n : Int64) = lN n := Eq.trans rfl rfl
theorem ik (n : Nat) : (OfNat.ofNat n : Int32) = nI n := Eq.trans rfl rfl
/-- a boolean -/
def bI (c : Bool) : Int32 := if c = true then nI 1 else nI 0
theorem bI_0 (c : Bool) : (bI c = nI 0) ↔ c = false := by cases c <;> decide
theorem xz_b (c : Bool) (h : px_H) : xz (bI c) h = some (bI c, h) := by cases c <;> exact if_pos (by decide)
theorem xz_0 (h : px_H) : xz (nI 0) h = some (bI false, h) := xz_b false h
theorem xz_1 (h : px_H) : xz (nI 1) h = some (bI true, h) := xz_b true h
theorem lEQ {a b : Nat} (ha : a < 2 ^ 64) (hb : b < 2 ^ 64) : lN a = lN b ↔ a = b := by
  constructor
  · intro h
    rw [← wb_tn ha, ← wb_tn hb, h]
  · intro h; rw [h]
/-- a byte's number -/
def b8 (x : Int32) : Nat := x.toBitVec.toNat % 256
theorem b8_lt (x : Int32) : b8 x < 256 := Nat.mod_lt _ (by decide)
/-- the number of k bytes from p on -/
def le (b : Nat → Nat) (p : Nat) : Nat → Nat
  | 0 => 0
  | k + 1 => b (p + k) * 256 ^ k + le b p k
theorem le_lt {b : Nat → Nat} (hb : ∀ k, b k < 256) (p : Nat) : ∀ k, le b p k < 256 ^ k
  | 0 => (Nat.zero_lt_one : (0 : Nat) < 1)
  | k + 1 => by
    have h1 := le_lt hb p k
    have h2 := hb (p + k)
    show b (p + k) * 256 ^ k + le b p k < 256 ^ (k + 1)
    have h3 : b (p + k) * 256 ^ k ≤ 255 * 256 ^ k := Nat.mul_le_mul_right _ (by omega)
    rw [Nat.pow_succ]
    generalize 256 ^ k = P at h1 h3 ⊢
    omega
/-- the bytes of an object at o -/
def ov (B : Nat → Int32) (o k : Nat) : Nat := b8 (B (o + k))
theorem ov_lt (B : Nat → Int32) (o k : Nat) : ov B o k < 256 := b8_lt _
def ub (B : Nat → Int32) (k : Nat) : Nat := b8 (B k)
theorem le_ov (B : Nat → Int32) (o x : Nat) : ∀ k, le (ub B) (o + x) k = le (ov B o) x k
  | 0 => rfl
  | k + 1 => by
    show ub B (o + x + k) * 256 ^ k + le (ub B) (o + x) k = ov B o (x + k) * 256 ^ k + le (ov B o) x k
    rw [le_ov B o x k, Nat.add_assoc]
    rfl
/-- the n bytes of an object at o, 0 behind them -/
def cb (B : Nat → Int32) (o n k : Nat) : Nat := if k < n then b8 (B (o + k)) else 0
theorem cb_lt (B : Nat → Int32) (o n k : Nat) : cb B o n k < 256 := by
  unfold cb
  split
  · exact b8_lt _
  · decide
theorem cb_at {B : Nat → Int32} {o n k : Nat} (h : k < n) : cb B o n k = b8 (B (o + k)) := if_pos h
theorem le_cb (B : Nat → Int32) (o n x : Nat) : ∀ k, x + k ≤ n → le (ub B) (o + x) k = le (cb B o n) x k
  | 0, _ => rfl
  | k + 1, hk => by
    show ub B (o + x + k) * 256 ^ k + le (ub B) (o + x) k = cb B o n (x + k) * 256 ^ k + le (cb B o n) x k
    rw [le_cb B o n x k (by omega), Nat.add_assoc]
    unfold cb
    rw [if_pos (by omega)]
    rfl
theorem sh_byte (x : Nat) (y : Int32) (hx : x * 256 + 255 < 2 ^ 64) : ((lN x <<< ((nI 8).toInt64 &&& 63)) ||| (y &&& nI 255).toInt64) = lN (x * 256 + b8 y) := by
  have h1 : y &&& nI 255 = nI (b8 y) := pk_and y 8 (by decide)
  have h2 := b8_lt y
  rw [wb_shl x (by decide), h1, nI_l (by omega)]
  exact g_or (k := 8) rfl h2 (by omega)
theorem nI_back (k : Nat) : nI k + Int32.ofInt (-1) = nI k - nI 1 := by
  rw [Int32.sub_eq_add_neg]; rfl
theorem xaI_at {h : px_H} {t a N i : Nat} {f : Nat → Int32} (hA : xA h t a = some (N, f)) (hN : N < 2 ^ 31) (hi : i < N) : xaI h t a (nI i) = some (f i) := by
  unfold xaI
  rw [hA]
  show (if nI i < 0 ∨ N ≤ (nI i).toNatClampNeg then none else some (f (nI i).toNatClampNeg)) = some (f i)
  rw [if_neg (nI_in hi hN), nI_clamp (by omega)]
/-- a value of a byte -/
def isB (x : Int32) : Prop := x = (nI (b8 x)).toInt8.toInt32
theorem b8_T : ∀ n, n < 256 → (nI n).toInt8.toInt32.toInt = if n < 128 then (n : Int) else (n : Int) - 256 := by decide +kernel
theorem isB_T {x : Int32} (h : isB x) : x.toInt = if b8 x < 128 then (b8 x : Int) else (b8 x : Int) - 256 := by
  have h1 := b8_T _ (b8_lt x)
  rw [← h] at h1
  exact h1
theorem isB_eq {x : Int32} (h : isB x) {c : Nat} (hc : c < 128) : x = nI c ↔ b8 x = c := by
  have h1 := isB_T h
  have h2 := b8_lt x
  rw [← Int32.toInt_inj, nI_toInt (by omega), h1]
  split <;> omega
theorem isB_le {x : Int32} (h : isB x) {c : Nat} (hc : c < 128) : x ≤ nI c ↔ (b8 x ≤ c ∨ 128 ≤ b8 x) := by
  have h1 := isB_T h
  have h2 := b8_lt x
  rw [Int32.le_iff_toInt_le, nI_toInt (by omega), h1]
  split <;> omega
theorem isB_lt {x : Int32} (h : isB x) {c : Nat} (hc : c < 128) : x < nI c ↔ (b8 x < c ∨ 128 ≤ b8 x) := by
  have h1 := isB_T h
  have h2 := b8_lt x
  rw [Int32.lt_iff_toInt_lt, nI_toInt (by omega), h1]
  split <;> omega
theorem isB_gt {x : Int32} (h : isB x) {c : Nat} (hc : c < 128) : nI c < x ↔ (c < b8 x ∧ b8 x < 128) := by
  have h1 := isB_T h
  have h2 := b8_lt x
  rw [Int32.lt_iff_toInt_lt, nI_toInt (by omega), h1]
  split <;> omega
theorem b8_hi : ∀ n, n < 256 → ((nI n).toInt8.toInt32 >>> ((nI 4) &&& 31)) &&& (nI 15) = nI (n / 16) := by decide +kernel
theorem isB_hi {x : Int32} (h : isB x) : (x >>> ((nI 4) &&& 31)) &&& (nI 15) = nI (b8 x / 16) := by
  have h1 := b8_hi _ (b8_lt x)
  rw [← h] at h1
  exact h1
/-- the reference's bytes -/
def mb (h : px_H) (m : Nat) (B : Nat → Int32) : Prop := ∃ fs q, xo h 12 m = some fs ∧ xgR h 12 6 m = some q ∧ xA h 0 q = some (65536, B) ∧ ∀ k, isB (B k)
section NUM
variable {F : Nat} {h : px_H} {m : Nat} {B : Nat → Int32}
theorem q_num_7 {p : Nat} (hb : mb h m B) : ∀ (k x f : Nat), k < f → (x + 1) * 256 ^ k ≤ 2 ^ 64 → p + k ≤ 65536 → f_M_num_7 F f m (nI p) (lN x) (nI k - nI 1) h = some (lN (x * 256 ^ k + le (ub B) p k), h) := by
  obtain ⟨fs, q, h1, h2, h3, h4⟩ := hb
  intro k
  induction k with
  | zero =>
    intro x f hf hx hp
    cases f with
    | zero => omega
    | succ f =>
      unfold f_M_num_7
      rw [if_pos (by decide)]
      show some (lN x, h) = _
      rw [Nat.pow_zero, Nat.mul_one]
      rfl
  | succ k ih =>
    intro x f hf hx hp
    cases f with
    | zero => omega
    | succ f =>
      have e1 : nI (k + 1) - nI 1 = nI k := nI_pred k
      have e2 : (x + 1) * 256 ^ (k + 1) = (x + 1) * 256 * 256 ^ k := by rw [Nat.pow_succ, Nat.mul_comm (256 ^ k), Nat.mul_assoc]
      have e3 : 1 ≤ 256 ^ k := Nat.one_le_pow _ _ (by decide)
      have e4 : (x + 1) * 256 ≤ 2 ^ 64 := by
        have : (x + 1) * 256 * 1 ≤ (x + 1) * 256 * 256 ^ k := Nat.mul_le_mul_left _ e3
        omega
      have e5 := b8_lt (B (p + k))
      unfold f_M_num_7
      rw [e1, if_neg (nI_pos (by omega)), h2]
      simp only [bs]
      rw [nI_add, xaI_at h3 (by decide) (by omega)]
      simp only [bs]
      rw [sh_byte x _ (by omega), nI_back]
      have e6 : (x * 256 + b8 (B (p + k)) + 1) * 256 ^ k ≤ 2 ^ 64 := by
        have : (x * 256 + b8 (B (p + k)) + 1) * 256 ^ k ≤ (x + 1) * 256 * 256 ^ k := Nat.mul_le_mul_right _ (by omega)
        omega
      rw [ih _ f (by omega) e6 (by omega)]
      have e7 : (x * 256 + b8 (B (p + k))) * 256 ^ k + le (ub B) p k = x * 256 ^ (k + 1) + le (ub B) p (k + 1) := by
        show _ = x * 256 ^ (k + 1) + (ub B (p + k) * 256 ^ k + le (ub B) p k)
        rw [Nat.add_mul, Nat.mul_assoc, Nat.mul_comm 256, ← Nat.pow_succ, Nat.add_assoc]
        rfl
      rw [e7]
theorem q_num {p k : Nat} (hb : mb h m B) (hF : 8 < F) (hk : k ≤ 8) (hp : p + k ≤ 65536) : f_M_num F m (nI p) (nI k) h = some (lN (le (ub B) p k), h) := by
  unfold f_M_num
  have e : (0 + 1) * 256 ^ k ≤ 2 ^ 64 := by
    rw [Nat.zero_add, Nat.one_mul]
    exact Nat.pow_le_pow_right (n := 256) (by decide) hk
  rw [q_num_7 hb k 0 F (by omega) e hp, Nat.zero_mul, Nat.zero_add]
theorem q_numo {o n x k : Nat} (hb : mb h m B) (hF : 8 < F) (hk : k ≤ 8) (hn : o + n ≤ 65536) (hp : x + k ≤ n) : f_M_num F m (nI (o + x)) (nI k) h = some (lN (le (cb B o n) x k), h) := by
  rw [q_num hb hF hk (by omega), le_cb B o n x k hp]
end NUM
