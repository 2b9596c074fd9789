section
/-! the reference's cells: generated (genst.py) -/
def mT : List (Nat × Nat × Nat × Nat) := [(0, 0, 0, 0), (2, 1, 0, 8192), (0, 0, 0, 0), (2, 2, 0, 65536), (0, 0, 0, 0), (0, 0, 0, 0), (2, 3, 0, 65536), (2, 4, 1, 8), (2, 5, 1, 8), (2, 6, 1, 64), (2, 7, 1, 64), (2, 8, 3, 8), (2, 9, 3, 64), (0, 0, 0, 0), (0, 0, 0, 0), (0, 0, 0, 0), (1, 0, 0, 0), (2, 10, 1, 64), (2, 11, 3, 64), (2, 12, 3, 8), (0, 0, 0, 0), (2, 13, 0, 81920), (2, 14, 1, 4096), (2, 15, 1, 4096), (2, 16, 1, 4096), (2, 17, 1, 4096), (2, 18, 1, 4096), (2, 19, 1, 4096), (2, 20, 3, 4096), (3, 21, 2, 4096), (3, 22, 2, 4096), (0, 0, 0, 0), (0, 0, 0, 0), (2, 23, 0, 320), (2, 24, 0, 320), (2, 25, 1, 16), (2, 26, 1, 16), (3, 27, 2, 16), (2, 28, 1, 4096), (2, 29, 1, 4096), (2, 30, 1, 64), (3, 31, 2, 4096), (2, 32, 0, 65536), (0, 0, 0, 0), (0, 0, 0, 0), (2, 33, 1, 2800), (2, 34, 1, 2800), (3, 35, 2, 2800), (0, 0, 0, 0), (2, 36, 1, 4096), (0, 0, 0, 0), (2, 37, 1, 1536), (2, 38, 1, 1536), (2, 39, 1, 1536), (2, 40, 1, 1536), (2, 41, 1, 1536), (2, 42, 1, 1536), (3, 43, 2, 1536), (3, 44, 2, 1536), (2, 45, 3, 3), (3, 46, 2, 3), (3, 47, 2, 3), (3, 48, 2, 3), (3, 49, 2, 3), (1, 0, 0, 0), (2, 50, 3, 1536), (2, 51, 3, 1536), (2, 52, 3, 4096), (0, 0, 0, 0), (0, 0, 0, 0), (0, 0, 0, 0), (2, 53, 1, 1536), (2, 54, 1, 1536), (2, 55, 1, 4096), (0, 0, 0, 0), (2, 56, 1, 2800), (2, 57, 1, 2800), (2, 58, 1, 2800), (2, 59, 3, 2800), (1, 0, 0, 0), (1, 0, 0, 0), (1, 0, 0, 0), (0, 0, 0, 0), (1, 0, 0, 0), (1, 0, 0, 0), (1, 0, 0, 0), (1, 0, 0, 0), (1, 0, 0, 0), (0, 0, 0, 0), (0, 0, 0, 0), (1, 0, 0, 0), (2, 60, 0, 65536), (2, 61, 1, 65540), (2, 62, 1, 65540), (2, 63, 1, 65540), (2, 64, 0, 65540), (2, 65, 3, 24), (2, 66, 0, 27), (0, 0, 0, 0), (2, 67, 0, 65536), (2, 68, 0, 65536), (0, 0, 0, 0), (0, 0, 0, 0), (0, 0, 0, 0), (1, 0, 0, 0), (3, 69, 2, 8), (3, 70, 2, 8), (3, 71, 2, 8), (3, 72, 2, 8), (3, 73, 2, 8), (3, 74, 2, 8), (3, 75, 2, 8), (3, 76, 2, 8), (3, 77, 2, 8), (3, 78, 2, 8), (0, 0, 0, 0), (2, 79, 0, 6), (2, 80, 1, 1536), (2, 81, 1, 4096), (2, 82, 1, 4096), (2, 83, 1, 24), (2, 84, 1, 24), (2, 85, 1, 64), (0, 0, 0, 0), (0, 0, 0, 0), (0, 0, 0, 0), (0, 0, 0, 0), (0, 0, 0, 0), (2, 86, 1, 64), (2, 87, 1, 64)]
def mA : List Nat := [1, 3, 6, 7, 8, 9, 10, 11, 12, 17, 18, 19, 21, 22, 23, 24, 25, 26, 27, 28, 29, 30, 33, 34, 35, 36, 37, 38, 39, 40, 41, 42, 45, 46, 47, 49, 51, 52, 53, 54, 55, 56, 57, 58, 59, 60, 61, 62, 63, 65, 66, 67, 71, 72, 73, 75, 76, 77, 78, 91, 92, 93, 94, 95, 96, 97, 99, 100, 105, 106, 107, 108, 109, 110, 111, 112, 113, 114, 116, 117, 118, 119, 120, 121, 122, 128, 129]
end
section
/-! numbers of bytes -/
theorem xb_mk {α β : Type} (x : α) (p : px_H) (k : α → px_H → Option β) : xb (some (x, p)) k = k x p := Eq.trans rfl rfl
theorem bs {α β : Type} (x : α) (k : α → Option β) : (some x).bind k = k x := Eq.trans rfl rfl
theorem lk (n : Nat) : (OfNat.ofNat n : Int64) = lN n := Eq.trans rfl rfl
theorem ik (n : Nat) : (OfNat.ofNat n : Int32) = nI n := Eq.trans rfl rfl
/-- a boolean -/
def bI (c : Bool) : Int32 := if c = true then nI 1 else nI 0
theorem bI_0 (c : Bool) : (bI c = nI 0) ↔ c = false := by cases c <;> decide
theorem xz_b (c : Bool) (h : px_H) : xz (bI c) h = some (bI c, h) := by cases c <;> exact if_pos (by decide)
theorem xz_0 (h : px_H) : xz (nI 0) h = some (bI false, h) := xz_b false h
theorem xz_1 (h : px_H) : xz (nI 1) h = some (bI true, h) := xz_b true h
theorem lEQ {a b : Nat} (ha : a < 2 ^ 64) (hb : b < 2 ^ 64) : lN a = lN b ↔ a = b := by
  constructor
  · intro h
    rw [← wb_tn ha, ← wb_tn hb, h]
  · intro h; rw [h]
/-- a byte's number -/
def b8 (x : Int32) : Nat := x.toBitVec.toNat % 256
theorem b8_lt (x : Int32) : b8 x < 256 := Nat.mod_lt _ (by decide)
/-- the number of k bytes from p on -/
def le (b : Nat → Nat) (p : Nat) : Nat → Nat
  | 0 => 0
  | k + 1 => b (p + k) * 256 ^ k + le b p k
theorem le_lt {b : Nat → Nat} (hb : ∀ k, b k < 256) (p : Nat) : ∀ k, le b p k < 256 ^ k
  | 0 => (Nat.zero_lt_one : (0 : Nat) < 1)
  | k + 1 => by
    have h1 := le_lt hb p k
    have h2 := hb (p + k)
    show b (p + k) * 256 ^ k + le b p k < 256 ^ (k + 1)
    have h3 : b (p + k) * 256 ^ k ≤ 255 * 256 ^ k := Nat.mul_le_mul_right _ (by omega)
    rw [Nat.pow_succ]
    generalize 256 ^ k = P at h1 h3 ⊢
    omega
/-- the bytes of an object at o -/
def ov (B : Nat → Int32) (o k : Nat) : Nat := b8 (B (o + k))
theorem ov_lt (B : Nat → Int32) (o k : Nat) : ov B o k < 256 := b8_lt _
def ub (B : Nat → Int32) (k : Nat) : Nat := b8 (B k)
theorem le_ov (B : Nat → Int32) (o x : Nat) : ∀ k, le (ub B) (o + x) k = le (ov B o) x k
  | 0 => rfl
  | k + 1 => by
    show ub B (o + x + k) * 256 ^ k + le (ub B) (o + x) k = ov B o (x + k) * 256 ^ k + le (ov B o) x k
    rw [le_ov B o x k, Nat.add_assoc]
    rfl
/-- the n bytes of an object at o, 0 behind them -/
def cb (B : Nat → Int32) (o n k : Nat) : Nat := if k < n then b8 (B (o + k)) else 0
theorem cb_lt (B : Nat → Int32) (o n k : Nat) : cb B o n k < 256 := by
  unfold cb
  split
  · exact b8_lt _
  · decide
theorem cb_at {B : Nat → Int32} {o n k : Nat} (h : k < n) : cb B o n k = b8 (B (o + k)) := if_pos h
theorem le_cb (B : Nat → Int32) (o n x : Nat) : ∀ k, x + k ≤ n → le (ub B) (o + x) k = le (cb B o n) x k
  | 0, _ => rfl
  | k + 1, hk => by
    show ub B (o + x + k) * 256 ^ k + le (ub B) (o + x) k = cb B o n (x + k) * 256 ^ k + le (cb B o n) x k
    rw [le_cb B o n x k (by omega), Nat.add_assoc]
    unfold cb
    rw [if_pos (by omega)]
    rfl
theorem sh_byte (x : Nat) (y : Int32) (hx : x * 256 + 255 < 2 ^ 64) : ((lN x <<< ((nI 8).toInt64 &&& 63)) ||| (y &&& nI 255).toInt64) = lN (x * 256 + b8 y) := by
  have h1 : y &&& nI 255 = nI (b8 y) := pk_and y 8 (by decide)
  have h2 := b8_lt y
  rw [wb_shl x (by decide), h1, nI_l (by omega)]
  exact g_or (k := 8) rfl h2 (by omega)
theorem nI_back (k : Nat) : nI k + Int32.ofInt (-1) = nI k - nI 1 := by
  rw [Int32.sub_eq_add_neg]; rfl
theorem xaI_at {h : px_H} {t a N i : Nat} {f : Nat → Int32} (hA : xA h t a = some (N, f)) (hN : N < 2 ^ 31) (hi : i < N) : xaI h t a (nI i) = some (f i) := by
  unfold xaI
  rw [hA]
  show (if nI i < 0 ∨ N ≤ (nI i).toNatClampNeg then none else some (f (nI i).toNatClampNeg)) = some (f i)
  rw [if_neg (nI_in hi hN), nI_clamp (by omega)]
/-- a value of a byte -/
def isB (x : Int32) : Prop := x = (nI (b8 x)).toInt8.toInt32
theorem b8_T : ∀ n, n < 256 → (nI n).toInt8.toInt32.toInt = if n < 128 then (n : Int) else (n : Int) - 256 := by decide +kernel
theorem isB_T {x : Int32} (h : isB x) : x.toInt = if b8 x < 128 then (b8 x : Int) else (b8 x : Int) - 256 := by
  have h1 := b8_T _ (b8_lt x)
  rw [← h] at h1
  exact h1
theorem isB_eq {x : Int32} (h : isB x) {c : Nat} (hc : c < 128) : x = nI c ↔ b8 x = c := by
  have h1 := isB_T h
  have h2 := b8_lt x
  rw [← Int32.toInt_inj, nI_toInt (by omega), h1]
  split <;> omega
theorem isB_le {x : Int32} (h : isB x) {c : Nat} (hc : c < 128) : x ≤ nI c ↔ (b8 x ≤ c ∨ 128 ≤ b8 x) := by
  have h1 := isB_T h
  have h2 := b8_lt x
  rw [Int32.le_iff_toInt_le, nI_toInt (by omega), h1]
  split <;> omega
theorem isB_lt {x : Int32} (h : isB x) {c : Nat} (hc : c < 128) : x < nI c ↔ (b8 x < c ∨ 128 ≤ b8 x) := by
  have h1 := isB_T h
  have h2 := b8_lt x
  rw [Int32.lt_iff_toInt_lt, nI_toInt (by omega), h1]
  split <;> omega
theorem isB_gt {x : Int32} (h : isB x) {c : Nat} (hc : c < 128) : nI c < x ↔ (c < b8 x ∧ b8 x < 128) := by
  have h1 := isB_T h
  have h2 := b8_lt x
  rw [Int32.lt_iff_toInt_lt, nI_toInt (by omega), h1]
  split <;> omega
theorem b8_hi : ∀ n, n < 256 → ((nI n).toInt8.toInt32 >>> ((nI 4) &&& 31)) &&& (nI 15) = nI (n / 16) := by decide +kernel
theorem isB_hi {x : Int32} (h : isB x) : (x >>> ((nI 4) &&& 31)) &&& (nI 15) = nI (b8 x / 16) := by
  have h1 := b8_hi _ (b8_lt x)
  rw [← h] at h1
  exact h1
/-- the reference's bytes -/
def mb (h : px_H) (m : Nat) (B : Nat → Int32) : Prop := ∃ fs q, xo h 12 m = some fs ∧ xgR h 12 6 m = some q ∧ xA h 0 q = some (65536, B) ∧ ∀ k, isB (B k)
section NUM
variable {F : Nat} {h : px_H} {m : Nat} {B : Nat → Int32}
theorem q_num_7 {p : Nat} (hb : mb h m B) : ∀ (k x f : Nat), k < f → (x + 1) * 256 ^ k ≤ 2 ^ 64 → p + k ≤ 65536 → f_M_num_7 F f m (nI p) (lN x) (nI k - nI 1) h = some (lN (x * 256 ^ k + le (ub B) p k), h) := by
  obtain ⟨fs, q, h1, h2, h3, h4⟩ := hb
  intro k
  induction k with
  | zero =>
    intro x f hf hx hp
    cases f with
    | zero => omega
    | succ f =>
      unfold f_M_num_7
      rw [if_pos (by decide)]
      show some (lN x, h) = _
      rw [Nat.pow_zero, Nat.mul_one]
      rfl
  | succ k ih =>
    intro x f hf hx hp
    cases f with
    | zero => omega
    | succ f =>
      have e1 : nI (k + 1) - nI 1 = nI k := nI_pred k
      have e2 : (x + 1) * 256 ^ (k + 1) = (x + 1) * 256 * 256 ^ k := by rw [Nat.pow_succ, Nat.mul_comm (256 ^ k), Nat.mul_assoc]
      have e3 : 1 ≤ 256 ^ k := Nat.one_le_pow _ _ (by decide)
      have e4 : (x + 1) * 256 ≤ 2 ^ 64 := by
        have : (x + 1) * 256 * 1 ≤ (x + 1) * 256 * 256 ^ k := Nat.mul_le_mul_left _ e3
        omega
      have e5 := b8_lt (B (p + k))
      unfold f_M_num_7
      rw [e1, if_neg (nI_pos (by omega)), h2]
      simp only [bs]
      rw [nI_add, xaI_at h3 (by decide) (by omega)]
      simp only [bs]
      rw [sh_byte x _ (by omega), nI_back]
      have e6 : (x * 256 + b8 (B (p + k)) + 1) * 256 ^ k ≤ 2 ^ 64 := by
        have : (x * 256 + b8 (B (p + k)) + 1) * 256 ^ k ≤ (x + 1) * 256 * 256 ^ k := Nat.mul_le_mul_right _ (by omega)
        omega
      rw [ih _ f (by omega) e6 (by omega)]
      have e7 : (x * 256 + b8 (B (p + k))) * 256 ^ k + le (ub B) p k = x * 256 ^ (k + 1) + le (ub B) p (k + 1) := by
        show _ = x * 256 ^ (k + 1) + (ub B (p + k) * 256 ^ k + le (ub B) p k)
        rw [Nat.add_mul, Nat.mul_assoc, Nat.mul_comm 256, ← Nat.pow_succ, Nat.add_assoc]
        rfl
      rw [e7]
theorem q_num {p k : Nat} (hb : mb h m B) (hF : 8 < F) (hk : k ≤ 8) (hp : p + k ≤ 65536) : f_M_num F m (nI p) (nI k) h = some (lN (le (ub B) p k), h) := by
  unfold f_M_num
  have e : (0 + 1) * 256 ^ k ≤ 2 ^ 64 := by
    rw [Nat.zero_add, Nat.one_mul]
    exact Nat.pow_le_pow_right (n := 256) (by decide) hk
  rw [q_num_7 hb k 0 F (by omega) e hp, Nat.zero_mul, Nat.zero_add]
theorem q_numo {o n x k : Nat} (hb : mb h m B) (hF : 8 < F) (hk : k ≤ 8) (hn : o + n ≤ 65536) (hp : x + k ≤ n) : f_M_num F m (nI (o + x)) (nI k) h = some (lN (le (cb B o n) x k), h) := by
  rw [q_num hb hF hk (by omega), le_cb B o n x k hp]
end NUM
end
section
/-! the heap with the reference's cells at m holding the state σ -/
abbrev px_S : Type := (Nat → Int32) × (Nat → Int64) × (Nat → Nat → Int32) × (Nat → Nat → Int64)
def gI (σ : px_S) (k : Nat) : Int32 := σ.1 k
def gJ (σ : px_S) (k : Nat) : Int64 := σ.2.1 k
def gA (σ : px_S) (k : Nat) : Nat → Int32 := σ.2.2.1 k
def gB (σ : px_S) (k : Nat) : Nat → Int64 := σ.2.2.2 k
def sI (σ : px_S) (k : Nat) (v : Int32) : px_S := (fun i => if i = k then v else σ.1 i, σ.2)
def sJ (σ : px_S) (k : Nat) (v : Int64) : px_S := (σ.1, fun i => if i = k then v else σ.2.1 i, σ.2.2)
def sA (σ : px_S) (k : Nat) (f : Nat → Int32) : px_S := (σ.1, σ.2.1, fun i => if i = k then f else σ.2.2.1 i, σ.2.2.2)
def sB (σ : px_S) (k : Nat) (f : Nat → Int64) : px_S := (σ.1, σ.2.1, σ.2.2.1, fun i => if i = k then f else σ.2.2.2 i)
theorem gI_sI (σ : px_S) (k i : Nat) (v : Int32) : gI (sI σ k v) i = if i = k then v else gI σ i := rfl
theorem gI_sJ (σ : px_S) (k i : Nat) (v : Int64) : gI (sJ σ k v) i = gI σ i := rfl
theorem gI_sA (σ : px_S) (k i : Nat) (f : Nat → Int32) : gI (sA σ k f) i = gI σ i := rfl
theorem gI_sB (σ : px_S) (k i : Nat) (f : Nat → Int64) : gI (sB σ k f) i = gI σ i := rfl
theorem gJ_sI (σ : px_S) (k i : Nat) (v : Int32) : gJ (sI σ k v) i = gJ σ i := rfl
theorem gJ_sJ (σ : px_S) (k i : Nat) (v : Int64) : gJ (sJ σ k v) i = if i = k then v else gJ σ i := rfl
theorem gJ_sA (σ : px_S) (k i : Nat) (f : Nat → Int32) : gJ (sA σ k f) i = gJ σ i := rfl
theorem gJ_sB (σ : px_S) (k i : Nat) (f : Nat → Int64) : gJ (sB σ k f) i = gJ σ i := rfl
theorem gA_sI (σ : px_S) (k i : Nat) (v : Int32) : gA (sI σ k v) i = gA σ i := rfl
theorem gA_sJ (σ : px_S) (k i : Nat) (v : Int64) : gA (sJ σ k v) i = gA σ i := rfl
theorem gA_sA (σ : px_S) (k i : Nat) (f : Nat → Int32) : gA (sA σ k f) i = if i = k then f else gA σ i := rfl
theorem gA_sB (σ : px_S) (k i : Nat) (f : Nat → Int64) : gA (sB σ k f) i = gA σ i := rfl
theorem gB_sI (σ : px_S) (k i : Nat) (v : Int32) : gB (sI σ k v) i = gB σ i := rfl
theorem gB_sJ (σ : px_S) (k i : Nat) (v : Int64) : gB (sJ σ k v) i = gB σ i := rfl
theorem gB_sA (σ : px_S) (k i : Nat) (f : Nat → Int32) : gB (sA σ k f) i = gB σ i := rfl
theorem gB_sB (σ : px_S) (k i : Nat) (f : Nat → Int64) : gB (sB σ k f) i = if i = k then f else gB σ i := rfl
theorem sA_self (σ : px_S) (k : Nat) : sA σ k (gA σ k) = σ := by
  unfold sA gA
  have : (fun i => if i = k then σ.2.2.1 k else σ.2.2.1 i) = σ.2.2.1 := by
    funext i
    by_cases c : i = k
    · rw [if_pos c, c]
    · rw [if_neg c]
  rw [this]
theorem sA_sA (σ : px_S) (k : Nat) (f g : Nat → Int32) : sA (sA σ k f) k g = sA σ k g := by
  unfold sA
  have : (fun i => if i = k then g else if i = k then f else σ.2.2.1 i) = fun i => if i = k then g else σ.2.2.1 i := by
    funext i
    by_cases c : i = k
    · rw [if_pos c, if_pos c]
    · rw [if_neg c, if_neg c, if_neg c]
  exact congrArg (fun x => (σ.1, σ.2.1, x, σ.2.2.2)) this
theorem sI_sI (σ : px_S) (k : Nat) (f g : Int32) : sI (sI σ k f) k g = sI σ k g := by
  unfold sI
  have : (fun i => if i = k then g else if i = k then f else σ.1 i) = fun i => if i = k then g else σ.1 i := by
    funext i
    by_cases c : i = k
    · rw [if_pos c, if_pos c]
    · rw [if_neg c, if_neg c, if_neg c]
  exact congrArg (fun x => (x, σ.2)) this
def mr (k : Nat) : Nat × Nat × Nat × Nat := mT.getD k (9, 0, 0, 0)
def fv (m : Nat) (σ : px_S) (k : Nat) : Value := if (mr k).1 = 0 then .int (gI σ k) else if (mr k).1 = 1 then .long (gJ σ k) else .ref (m + (mr k).2.1)
def arr (σ : px_S) (k : Nat) : px_PE := if (mr k).1 = 2 then .inl ((mr k).2.2.1, (mr k).2.2.2, .inl (gA σ k)) else .inl ((mr k).2.2.1, (mr k).2.2.2, .inr (.inl (gB σ k)))
def mfs (m : Nat) (σ : px_S) : List Value := (List.range 130).map (fv m σ)
def mcs (m : Nat) (σ : px_S) : List px_PE := .inr (12, mfs m σ) :: mA.map (arr σ)
def mh (m : Nat) (h : px_H) (σ : px_S) : px_H := h.take m ++ (mcs m σ ++ h.drop (m + 88))
theorem mcs_len (m : Nat) (σ : px_S) : (mcs m σ).length = 88 := by
  simp [mcs, mA]
theorem mT_len : mT.length = 130 := by decide +kernel
theorem mr_lt {k : Nat} (h : (mr k).1 ≠ 9) : k < 130 := by
  by_cases c : k < 130
  · exact c
  · exfalso
    apply h
    unfold mr
    rw [List.getD_eq_getElem?_getD, List.getElem?_eq_none (by rw [mT_len]; omega)]
    rfl
section MST
variable {m : Nat} {h : px_H} {σ : px_S}
theorem mh_at (hm : m ≤ h.length) {i : Nat} (hi : i < 88) : (mh m h σ)[m + i]? = (mcs m σ)[i]? := by
  unfold mh
  have e : (h.take m).length = m := by rw [List.length_take]; omega
  rw [List.getElem?_append_right (by omega), e, List.getElem?_append_left (by rw [mcs_len]; omega)]
  congr 1
  omega
theorem mh_set (hm : m ≤ h.length) {i : Nat} (hi : i < 88) (v : px_PE) {σ' : px_S} (hc : (mcs m σ).set i v = mcs m σ') : (mh m h σ).set (m + i) v = mh m h σ' := by
  unfold mh
  have e : (h.take m).length = m := by rw [List.length_take]; omega
  rw [List.set_append_right _ _ (by omega), e, List.set_append_left _ _ (by rw [mcs_len]; omega), show m + i - m = i by omega, hc]
theorem mh_0 (hm : m ≤ h.length) : (mh m h σ)[m]? = some (.inr (12, mfs m σ)) := mh_at (i := 0) hm (by decide)
theorem mA_off : ∀ i, i < 87 → (mr (mA.getD i 0)).2.1 = i + 1 ∧ 2 ≤ (mr (mA.getD i 0)).1 := by decide +kernel
theorem mA_of : ∀ k, k < 130 → 2 ≤ (mr k).1 → (mr k).2.1 < 88 ∧ 1 ≤ (mr k).2.1 ∧ mA[(mr k).2.1 - 1]? = some k := by decide +kernel
theorem mA_inj : ∀ i, i < 87 → ∀ j, j < 87 → mA[i]? = mA[j]? → i = j := by decide +kernel
theorem mh_a (hm : m ≤ h.length) {k : Nat} (hk : k < 130) (h2 : 2 ≤ (mr k).1) : (mh m h σ)[m + (mr k).2.1]? = some (arr σ k) := by
  obtain ⟨e1, e2, e3⟩ := mA_of k hk h2
  rw [mh_at hm e1]
  unfold mcs
  obtain ⟨i, hi⟩ : ∃ i, (mr k).2.1 = i + 1 := ⟨(mr k).2.1 - 1, by omega⟩
  rw [hi, List.getElem?_cons_succ, List.getElem?_map]
  rw [hi, Nat.add_sub_cancel] at e3
  rw [e3]
  rfl
theorem mfs_at (k : Nat) (hk : k < 130) : (mfs m σ)[k]? = some (fv m σ k) := by
  unfold mfs
  rw [List.getElem?_map, List.getElem?_range hk]
  rfl
theorem e_o (hm : m ≤ h.length) : xo (mh m h σ) 12 m = some (mfs m σ) := by
  unfold xo
  rw [mh_0 hm]
  exact if_pos rfl
theorem e_gI (hm : m ≤ h.length) {k : Nat} (hk : (mr k).1 = 0) : xgI (mh m h σ) 12 k m = some (gI σ k) := by
  have hk2 := mr_lt (show (mr k).1 ≠ 9 by rw [hk]; decide)
  unfold xgI
  rw [e_o hm, bs, mfs_at k hk2]
  unfold fv
  rw [if_pos hk]
  rfl
theorem e_gJ (hm : m ≤ h.length) {k : Nat} (hk : (mr k).1 = 1) : xgJ (mh m h σ) 12 k m = some (gJ σ k) := by
  have hk2 := mr_lt (show (mr k).1 ≠ 9 by rw [hk]; decide)
  unfold xgJ
  rw [e_o hm, bs, mfs_at k hk2]
  unfold fv
  rw [if_neg (by rw [hk]; decide), if_pos hk]
  rfl
theorem e_gR (hm : m ≤ h.length) {k : Nat} (hk : (mr k).1 = 2 ∨ (mr k).1 = 3) : xgR (mh m h σ) 12 k m = some (m + (mr k).2.1) := by
  have hk2 := mr_lt (show (mr k).1 ≠ 9 by omega)
  unfold xgR
  rw [e_o hm, bs, mfs_at k hk2]
  unfold fv
  rw [if_neg (by omega), if_neg (by omega)]
  rfl
theorem mfs_sI {k : Nat} (hk : (mr k).1 = 0) (v : Int32) : (mfs m σ).set k (.int v) = mfs m (sI σ k v) := by
  have hk2 := mr_lt (show (mr k).1 ≠ 9 by rw [hk]; decide)
  apply List.ext_getElem?
  intro i
  by_cases hi : i < 130
  · rw [mfs_at i hi]
    by_cases c : k = i
    · subst c
      rw [List.getElem?_set_self (by simp [mfs]; omega)]
      unfold fv
      rw [if_pos hk, gI_sI, if_pos rfl]
    · rw [List.getElem?_set_ne c, mfs_at i hi]
      unfold fv
      rw [gI_sI, if_neg (show ¬ i = k from fun q => c q.symm), gJ_sI]
  · rw [List.getElem?_eq_none (by simp [mfs]; omega), List.getElem?_eq_none (by simp [mfs]; omega)]
theorem mfs_sJ {k : Nat} (hk : (mr k).1 = 1) (v : Int64) : (mfs m σ).set k (.long v) = mfs m (sJ σ k v) := by
  have hk2 := mr_lt (show (mr k).1 ≠ 9 by rw [hk]; decide)
  apply List.ext_getElem?
  intro i
  by_cases hi : i < 130
  · rw [mfs_at i hi]
    by_cases c : k = i
    · subst c
      rw [List.getElem?_set_self (by simp [mfs]; omega)]
      unfold fv
      rw [if_neg (by rw [hk]; decide), if_pos hk, gJ_sJ, if_pos rfl]
    · rw [List.getElem?_set_ne c, mfs_at i hi]
      unfold fv
      rw [gJ_sJ, if_neg (show ¬ i = k from fun q => c q.symm), gI_sJ]
  · rw [List.getElem?_eq_none (by simp [mfs]; omega), List.getElem?_eq_none (by simp [mfs]; omega)]
theorem mfs_sA {k : Nat} (f : Nat → Int32) : mfs m (sA σ k f) = mfs m σ := rfl
theorem mfs_sB {k : Nat} (f : Nat → Int64) : mfs m (sB σ k f) = mfs m σ := rfl
theorem mfs_len : (mfs m σ).length = 130 := by simp [mfs]
theorem e_p (hm : m ≤ h.length) {k : Nat} (hk : k < 130) {v : Value} {σ' : px_S} (hf : (mfs m σ).set k v = mfs m σ') (ha : ∀ i, arr σ' i = arr σ i) : xp (mh m h σ) 12 k m v = some (mh m h σ') := by
  unfold xp
  rw [e_o hm, bs, if_pos (by rw [mfs_len]; exact Nat.blt_eq.mpr hk), hf]
  congr 1
  refine mh_set (i := 0) hm (by decide) _ ?_
  unfold mcs
  rw [List.set_cons_zero, show arr σ' = arr σ from funext ha]
theorem e_pI (hm : m ≤ h.length) {k : Nat} (hk : (mr k).1 = 0) (v : Int32) : xpI (mh m h σ) 12 k m v = some (mh m h (sI σ k v)) := e_p hm (mr_lt (show (mr k).1 ≠ 9 by rw [hk]; decide)) (mfs_sI hk v) (fun _ => rfl)
theorem e_pJ (hm : m ≤ h.length) {k : Nat} (hk : (mr k).1 = 1) (v : Int64) : xpJ (mh m h σ) 12 k m v = some (mh m h (sJ σ k v)) := e_p hm (mr_lt (show (mr k).1 ≠ 9 by rw [hk]; decide)) (mfs_sJ hk v) (fun _ => rfl)
theorem e_pZ (hm : m ≤ h.length) {k : Nat} (hk : (mr k).1 = 0) (c : Bool) : xpZ (mh m h σ) 12 k m (bI c) = some (mh m h (sI σ k (bI c))) := by
  unfold xpZ
  rw [if_pos (by cases c <;> decide)]
  exact e_pI hm hk _
theorem e_A (hm : m ≤ h.length) {k : Nat} (hk : (mr k).1 = 2) : xA (mh m h σ) (mr k).2.2.1 (m + (mr k).2.1) = some ((mr k).2.2.2, gA σ k) := by
  unfold xA
  rw [mh_a hm (mr_lt (show (mr k).1 ≠ 9 by rw [hk]; decide)) (by omega)]
  unfold arr
  rw [if_pos hk]
  exact if_pos rfl
theorem e_B (hm : m ≤ h.length) {k : Nat} (hk : (mr k).1 = 3) : xB (mh m h σ) (mr k).2.2.1 (m + (mr k).2.1) = some ((mr k).2.2.2, gB σ k) := by
  unfold xB
  rw [mh_a hm (mr_lt (show (mr k).1 ≠ 9 by rw [hk]; decide)) (by omega)]
  unfold arr
  rw [if_neg (by omega)]
  exact if_pos rfl
theorem mr_big : ∀ k, k < 130 → (mr k).2.2.2 < 2 ^ 31 := by decide +kernel
theorem e_aI (hm : m ≤ h.length) {k i : Nat} (hk : (mr k).1 = 2) (hi : i < (mr k).2.2.2) : xaI (mh m h σ) (mr k).2.2.1 (m + (mr k).2.1) (nI i) = some (gA σ k i) := xaI_at (e_A hm hk) (mr_big k (mr_lt (show (mr k).1 ≠ 9 by rw [hk]; decide))) hi
theorem e_aJ (hm : m ≤ h.length) {k i : Nat} (hk : (mr k).1 = 3) (hi : i < (mr k).2.2.2) : xaJ (mh m h σ) (mr k).2.2.1 (m + (mr k).2.1) (nI i) = some (gB σ k i) := by
  have hN := mr_big k (mr_lt (show (mr k).1 ≠ 9 by rw [hk]; decide))
  unfold xaJ
  rw [e_B hm hk, bs, if_neg (nI_in hi hN), nI_clamp (by omega)]
theorem mcs_set {k : Nat} (hk : k < 130) (h2 : 2 ≤ (mr k).1) {v : px_PE} {σ' : px_S} (hf : mfs m σ' = mfs m σ) (hv : arr σ' k = v) (ha : ∀ i, i ≠ k → arr σ' i = arr σ i) : (mcs m σ).set (mr k).2.1 v = mcs m σ' := by
  obtain ⟨e1, e2, e3⟩ := mA_of k hk h2
  obtain ⟨i, hi⟩ : ∃ i, (mr k).2.1 = i + 1 := ⟨(mr k).2.1 - 1, by omega⟩
  rw [hi, Nat.add_sub_cancel] at e3
  unfold mcs
  rw [hi, List.set_cons_succ, hf]
  congr 1
  apply List.ext_getElem?
  intro j
  rw [List.getElem?_map]
  by_cases c : i = j
  · subst c
    rw [List.getElem?_set_self (by simp [mA]; omega), e3]
    show some v = some (arr σ' k)
    rw [hv]
  · rw [List.getElem?_set_ne c, List.getElem?_map]
    by_cases hj : j < 87
    · cases hq : mA[j]? with
      | none => rfl
      | some x =>
        have hx : x ≠ k := by
          intro q
          apply c
          apply mA_inj i (by omega) j hj
          rw [hq, e3, q]
        show some (arr σ x) = some (arr σ' x)
        rw [ha x hx]
    · rw [List.getElem?_eq_none (by simp [mA]; omega)]
      rfl
theorem e_sI (hm : m ≤ h.length) {k i : Nat} (hk : (mr k).1 = 2) (hi : i < (mr k).2.2.2) (v : Int32) : xsI (mh m h σ) (mr k).2.2.1 (m + (mr k).2.1) (nI i) v = some (mh m h (sA σ k (upd (gA σ k) i v))) := by
  have hk2 := mr_lt (show (mr k).1 ≠ 9 by rw [hk]; decide)
  have hN := mr_big k hk2
  unfold xsI
  rw [e_A hm hk, bs, if_neg (nI_in hi hN), nI_clamp (by omega)]
  congr 1
  refine mh_set hm (mA_of k hk2 (by omega)).1 _ ?_
  refine mcs_set hk2 (by omega) rfl ?_ ?_
  · unfold arr
    rw [if_pos hk, gA_sA, if_pos rfl]
  · intro i hik
    unfold arr
    rw [gA_sA, if_neg hik, gB_sA]
theorem e_sJ (hm : m ≤ h.length) {k i : Nat} (hk : (mr k).1 = 3) (hi : i < (mr k).2.2.2) (v : Int64) : xsJ (mh m h σ) (mr k).2.2.1 (m + (mr k).2.1) (nI i) v = some (mh m h (sB σ k (vp_updL (gB σ k) i v))) := by
  have hk2 := mr_lt (show (mr k).1 ≠ 9 by rw [hk]; decide)
  have hN := mr_big k hk2
  unfold xsJ
  rw [e_B hm hk, bs, if_neg (nI_in hi hN), nI_clamp (by omega)]
  congr 1
  refine mh_set hm (mA_of k hk2 (by omega)).1 _ ?_
  refine mcs_set hk2 (by omega) rfl ?_ ?_
  · unfold arr
    rw [if_neg (by omega), gB_sB, if_pos rfl]
  · intro i hik
    unfold arr
    rw [gB_sB, if_neg hik, gA_sB]
end MST
end
section
/-! the reference's fields one by one: generated (genst.py) -/
section MF
variable {m : Nat} {h : px_H} {σ : px_S}
theorem Mg0 (hm : m ≤ h.length) : xgI (mh m h σ) 12 0 m = some (gI σ 0) := e_gI hm rfl
theorem Mp0 (hm : m ≤ h.length) (v : Int32) : xpI (mh m h σ) 12 0 m v = some (mh m h (sI σ 0 v)) := e_pI hm rfl v
theorem Mr1 (hm : m ≤ h.length) : xgR (mh m h σ) 12 1 m = some (m + 1) := e_gR (k := 1) hm (Or.inl rfl)
theorem Ma1 (hm : m ≤ h.length) {i : Nat} (hi : i < 8192) : xaI (mh m h σ) 0 (m + 1) (nI i) = some (gA σ 1 i) := e_aI (k := 1) hm rfl hi
theorem Ms1 (hm : m ≤ h.length) {i : Nat} (hi : i < 8192) (v : Int32) : xsI (mh m h σ) 0 (m + 1) (nI i) v = some (mh m h (sA σ 1 (upd (gA σ 1) i v))) := e_sI (k := 1) hm rfl hi v
theorem Mg2 (hm : m ≤ h.length) : xgI (mh m h σ) 12 2 m = some (gI σ 2) := e_gI hm rfl
theorem Mp2 (hm : m ≤ h.length) (v : Int32) : xpI (mh m h σ) 12 2 m v = some (mh m h (sI σ 2 v)) := e_pI hm rfl v
theorem Mr3 (hm : m ≤ h.length) : xgR (mh m h σ) 12 3 m = some (m + 2) := e_gR (k := 3) hm (Or.inl rfl)
theorem Ma3 (hm : m ≤ h.length) {i : Nat} (hi : i < 65536) : xaI (mh m h σ) 0 (m + 2) (nI i) = some (gA σ 3 i) := e_aI (k := 3) hm rfl hi
theorem Ms3 (hm : m ≤ h.length) {i : Nat} (hi : i < 65536) (v : Int32) : xsI (mh m h σ) 0 (m + 2) (nI i) v = some (mh m h (sA σ 3 (upd (gA σ 3) i v))) := e_sI (k := 3) hm rfl hi v
theorem Mg4 (hm : m ≤ h.length) : xgI (mh m h σ) 12 4 m = some (gI σ 4) := e_gI hm rfl
theorem Mp4 (hm : m ≤ h.length) (v : Int32) : xpI (mh m h σ) 12 4 m v = some (mh m h (sI σ 4 v)) := e_pI hm rfl v
theorem Mg5 (hm : m ≤ h.length) : xgI (mh m h σ) 12 5 m = some (gI σ 5) := e_gI hm rfl
theorem Mp5 (hm : m ≤ h.length) (v : Int32) : xpI (mh m h σ) 12 5 m v = some (mh m h (sI σ 5 v)) := e_pI hm rfl v
theorem Mr6 (hm : m ≤ h.length) : xgR (mh m h σ) 12 6 m = some (m + 3) := e_gR (k := 6) hm (Or.inl rfl)
theorem Ma6 (hm : m ≤ h.length) {i : Nat} (hi : i < 65536) : xaI (mh m h σ) 0 (m + 3) (nI i) = some (gA σ 6 i) := e_aI (k := 6) hm rfl hi
theorem Ms6 (hm : m ≤ h.length) {i : Nat} (hi : i < 65536) (v : Int32) : xsI (mh m h σ) 0 (m + 3) (nI i) v = some (mh m h (sA σ 6 (upd (gA σ 6) i v))) := e_sI (k := 6) hm rfl hi v
theorem Mr7 (hm : m ≤ h.length) : xgR (mh m h σ) 12 7 m = some (m + 4) := e_gR (k := 7) hm (Or.inl rfl)
theorem Ma7 (hm : m ≤ h.length) {i : Nat} (hi : i < 8) : xaI (mh m h σ) 1 (m + 4) (nI i) = some (gA σ 7 i) := e_aI (k := 7) hm rfl hi
theorem Ms7 (hm : m ≤ h.length) {i : Nat} (hi : i < 8) (v : Int32) : xsI (mh m h σ) 1 (m + 4) (nI i) v = some (mh m h (sA σ 7 (upd (gA σ 7) i v))) := e_sI (k := 7) hm rfl hi v
theorem Mr8 (hm : m ≤ h.length) : xgR (mh m h σ) 12 8 m = some (m + 5) := e_gR (k := 8) hm (Or.inl rfl)
theorem Ma8 (hm : m ≤ h.length) {i : Nat} (hi : i < 8) : xaI (mh m h σ) 1 (m + 5) (nI i) = some (gA σ 8 i) := e_aI (k := 8) hm rfl hi
theorem Ms8 (hm : m ≤ h.length) {i : Nat} (hi : i < 8) (v : Int32) : xsI (mh m h σ) 1 (m + 5) (nI i) v = some (mh m h (sA σ 8 (upd (gA σ 8) i v))) := e_sI (k := 8) hm rfl hi v
theorem Mr9 (hm : m ≤ h.length) : xgR (mh m h σ) 12 9 m = some (m + 6) := e_gR (k := 9) hm (Or.inl rfl)
theorem Ma9 (hm : m ≤ h.length) {i : Nat} (hi : i < 64) : xaI (mh m h σ) 1 (m + 6) (nI i) = some (gA σ 9 i) := e_aI (k := 9) hm rfl hi
theorem Ms9 (hm : m ≤ h.length) {i : Nat} (hi : i < 64) (v : Int32) : xsI (mh m h σ) 1 (m + 6) (nI i) v = some (mh m h (sA σ 9 (upd (gA σ 9) i v))) := e_sI (k := 9) hm rfl hi v
theorem Mr10 (hm : m ≤ h.length) : xgR (mh m h σ) 12 10 m = some (m + 7) := e_gR (k := 10) hm (Or.inl rfl)
theorem Ma10 (hm : m ≤ h.length) {i : Nat} (hi : i < 64) : xaI (mh m h σ) 1 (m + 7) (nI i) = some (gA σ 10 i) := e_aI (k := 10) hm rfl hi
theorem Ms10 (hm : m ≤ h.length) {i : Nat} (hi : i < 64) (v : Int32) : xsI (mh m h σ) 1 (m + 7) (nI i) v = some (mh m h (sA σ 10 (upd (gA σ 10) i v))) := e_sI (k := 10) hm rfl hi v
theorem Mr11 (hm : m ≤ h.length) : xgR (mh m h σ) 12 11 m = some (m + 8) := e_gR (k := 11) hm (Or.inl rfl)
theorem Ma11 (hm : m ≤ h.length) {i : Nat} (hi : i < 8) : xaI (mh m h σ) 3 (m + 8) (nI i) = some (gA σ 11 i) := e_aI (k := 11) hm rfl hi
theorem Ms11 (hm : m ≤ h.length) {i : Nat} (hi : i < 8) (v : Int32) : xsI (mh m h σ) 3 (m + 8) (nI i) v = some (mh m h (sA σ 11 (upd (gA σ 11) i v))) := e_sI (k := 11) hm rfl hi v
theorem Mr12 (hm : m ≤ h.length) : xgR (mh m h σ) 12 12 m = some (m + 9) := e_gR (k := 12) hm (Or.inl rfl)
theorem Ma12 (hm : m ≤ h.length) {i : Nat} (hi : i < 64) : xaI (mh m h σ) 3 (m + 9) (nI i) = some (gA σ 12 i) := e_aI (k := 12) hm rfl hi
theorem Ms12 (hm : m ≤ h.length) {i : Nat} (hi : i < 64) (v : Int32) : xsI (mh m h σ) 3 (m + 9) (nI i) v = some (mh m h (sA σ 12 (upd (gA σ 12) i v))) := e_sI (k := 12) hm rfl hi v
theorem Mg13 (hm : m ≤ h.length) : xgI (mh m h σ) 12 13 m = some (gI σ 13) := e_gI hm rfl
theorem Mp13 (hm : m ≤ h.length) (v : Int32) : xpI (mh m h σ) 12 13 m v = some (mh m h (sI σ 13 v)) := e_pI hm rfl v
theorem Mg14 (hm : m ≤ h.length) : xgI (mh m h σ) 12 14 m = some (gI σ 14) := e_gI hm rfl
theorem Mp14 (hm : m ≤ h.length) (v : Int32) : xpI (mh m h σ) 12 14 m v = some (mh m h (sI σ 14 v)) := e_pI hm rfl v
theorem Mg15 (hm : m ≤ h.length) : xgI (mh m h σ) 12 15 m = some (gI σ 15) := e_gI hm rfl
theorem Mp15 (hm : m ≤ h.length) (v : Int32) : xpI (mh m h σ) 12 15 m v = some (mh m h (sI σ 15 v)) := e_pI hm rfl v
theorem Mg16 (hm : m ≤ h.length) : xgJ (mh m h σ) 12 16 m = some (gJ σ 16) := e_gJ hm rfl
theorem Mp16 (hm : m ≤ h.length) (v : Int64) : xpJ (mh m h σ) 12 16 m v = some (mh m h (sJ σ 16 v)) := e_pJ hm rfl v
theorem Mr17 (hm : m ≤ h.length) : xgR (mh m h σ) 12 17 m = some (m + 10) := e_gR (k := 17) hm (Or.inl rfl)
theorem Ma17 (hm : m ≤ h.length) {i : Nat} (hi : i < 64) : xaI (mh m h σ) 1 (m + 10) (nI i) = some (gA σ 17 i) := e_aI (k := 17) hm rfl hi
theorem Ms17 (hm : m ≤ h.length) {i : Nat} (hi : i < 64) (v : Int32) : xsI (mh m h σ) 1 (m + 10) (nI i) v = some (mh m h (sA σ 17 (upd (gA σ 17) i v))) := e_sI (k := 17) hm rfl hi v
theorem Mr18 (hm : m ≤ h.length) : xgR (mh m h σ) 12 18 m = some (m + 11) := e_gR (k := 18) hm (Or.inl rfl)
theorem Ma18 (hm : m ≤ h.length) {i : Nat} (hi : i < 64) : xaI (mh m h σ) 3 (m + 11) (nI i) = some (gA σ 18 i) := e_aI (k := 18) hm rfl hi
theorem Ms18 (hm : m ≤ h.length) {i : Nat} (hi : i < 64) (v : Int32) : xsI (mh m h σ) 3 (m + 11) (nI i) v = some (mh m h (sA σ 18 (upd (gA σ 18) i v))) := e_sI (k := 18) hm rfl hi v
theorem Mr19 (hm : m ≤ h.length) : xgR (mh m h σ) 12 19 m = some (m + 12) := e_gR (k := 19) hm (Or.inl rfl)
theorem Ma19 (hm : m ≤ h.length) {i : Nat} (hi : i < 8) : xaI (mh m h σ) 3 (m + 12) (nI i) = some (gA σ 19 i) := e_aI (k := 19) hm rfl hi
theorem Ms19 (hm : m ≤ h.length) {i : Nat} (hi : i < 8) (v : Int32) : xsI (mh m h σ) 3 (m + 12) (nI i) v = some (mh m h (sA σ 19 (upd (gA σ 19) i v))) := e_sI (k := 19) hm rfl hi v
theorem Mg20 (hm : m ≤ h.length) : xgI (mh m h σ) 12 20 m = some (gI σ 20) := e_gI hm rfl
theorem Mp20 (hm : m ≤ h.length) (v : Int32) : xpI (mh m h σ) 12 20 m v = some (mh m h (sI σ 20 v)) := e_pI hm rfl v
theorem Mr21 (hm : m ≤ h.length) : xgR (mh m h σ) 12 21 m = some (m + 13) := e_gR (k := 21) hm (Or.inl rfl)
theorem Ma21 (hm : m ≤ h.length) {i : Nat} (hi : i < 81920) : xaI (mh m h σ) 0 (m + 13) (nI i) = some (gA σ 21 i) := e_aI (k := 21) hm rfl hi
theorem Ms21 (hm : m ≤ h.length) {i : Nat} (hi : i < 81920) (v : Int32) : xsI (mh m h σ) 0 (m + 13) (nI i) v = some (mh m h (sA σ 21 (upd (gA σ 21) i v))) := e_sI (k := 21) hm rfl hi v
theorem Mr22 (hm : m ≤ h.length) : xgR (mh m h σ) 12 22 m = some (m + 14) := e_gR (k := 22) hm (Or.inl rfl)
theorem Ma22 (hm : m ≤ h.length) {i : Nat} (hi : i < 4096) : xaI (mh m h σ) 1 (m + 14) (nI i) = some (gA σ 22 i) := e_aI (k := 22) hm rfl hi
theorem Ms22 (hm : m ≤ h.length) {i : Nat} (hi : i < 4096) (v : Int32) : xsI (mh m h σ) 1 (m + 14) (nI i) v = some (mh m h (sA σ 22 (upd (gA σ 22) i v))) := e_sI (k := 22) hm rfl hi v
theorem Mr23 (hm : m ≤ h.length) : xgR (mh m h σ) 12 23 m = some (m + 15) := e_gR (k := 23) hm (Or.inl rfl)
theorem Ma23 (hm : m ≤ h.length) {i : Nat} (hi : i < 4096) : xaI (mh m h σ) 1 (m + 15) (nI i) = some (gA σ 23 i) := e_aI (k := 23) hm rfl hi
theorem Ms23 (hm : m ≤ h.length) {i : Nat} (hi : i < 4096) (v : Int32) : xsI (mh m h σ) 1 (m + 15) (nI i) v = some (mh m h (sA σ 23 (upd (gA σ 23) i v))) := e_sI (k := 23) hm rfl hi v
theorem Mr24 (hm : m ≤ h.length) : xgR (mh m h σ) 12 24 m = some (m + 16) := e_gR (k := 24) hm (Or.inl rfl)
theorem Ma24 (hm : m ≤ h.length) {i : Nat} (hi : i < 4096) : xaI (mh m h σ) 1 (m + 16) (nI i) = some (gA σ 24 i) := e_aI (k := 24) hm rfl hi
theorem Ms24 (hm : m ≤ h.length) {i : Nat} (hi : i < 4096) (v : Int32) : xsI (mh m h σ) 1 (m + 16) (nI i) v = some (mh m h (sA σ 24 (upd (gA σ 24) i v))) := e_sI (k := 24) hm rfl hi v
theorem Mr25 (hm : m ≤ h.length) : xgR (mh m h σ) 12 25 m = some (m + 17) := e_gR (k := 25) hm (Or.inl rfl)
theorem Ma25 (hm : m ≤ h.length) {i : Nat} (hi : i < 4096) : xaI (mh m h σ) 1 (m + 17) (nI i) = some (gA σ 25 i) := e_aI (k := 25) hm rfl hi
theorem Ms25 (hm : m ≤ h.length) {i : Nat} (hi : i < 4096) (v : Int32) : xsI (mh m h σ) 1 (m + 17) (nI i) v = some (mh m h (sA σ 25 (upd (gA σ 25) i v))) := e_sI (k := 25) hm rfl hi v
theorem Mr26 (hm : m ≤ h.length) : xgR (mh m h σ) 12 26 m = some (m + 18) := e_gR (k := 26) hm (Or.inl rfl)
theorem Ma26 (hm : m ≤ h.length) {i : Nat} (hi : i < 4096) : xaI (mh m h σ) 1 (m + 18) (nI i) = some (gA σ 26 i) := e_aI (k := 26) hm rfl hi
theorem Ms26 (hm : m ≤ h.length) {i : Nat} (hi : i < 4096) (v : Int32) : xsI (mh m h σ) 1 (m + 18) (nI i) v = some (mh m h (sA σ 26 (upd (gA σ 26) i v))) := e_sI (k := 26) hm rfl hi v
theorem Mr27 (hm : m ≤ h.length) : xgR (mh m h σ) 12 27 m = some (m + 19) := e_gR (k := 27) hm (Or.inl rfl)
theorem Ma27 (hm : m ≤ h.length) {i : Nat} (hi : i < 4096) : xaI (mh m h σ) 1 (m + 19) (nI i) = some (gA σ 27 i) := e_aI (k := 27) hm rfl hi
theorem Ms27 (hm : m ≤ h.length) {i : Nat} (hi : i < 4096) (v : Int32) : xsI (mh m h σ) 1 (m + 19) (nI i) v = some (mh m h (sA σ 27 (upd (gA σ 27) i v))) := e_sI (k := 27) hm rfl hi v
theorem Mr28 (hm : m ≤ h.length) : xgR (mh m h σ) 12 28 m = some (m + 20) := e_gR (k := 28) hm (Or.inl rfl)
theorem Ma28 (hm : m ≤ h.length) {i : Nat} (hi : i < 4096) : xaI (mh m h σ) 3 (m + 20) (nI i) = some (gA σ 28 i) := e_aI (k := 28) hm rfl hi
theorem Ms28 (hm : m ≤ h.length) {i : Nat} (hi : i < 4096) (v : Int32) : xsI (mh m h σ) 3 (m + 20) (nI i) v = some (mh m h (sA σ 28 (upd (gA σ 28) i v))) := e_sI (k := 28) hm rfl hi v
theorem Mr29 (hm : m ≤ h.length) : xgR (mh m h σ) 12 29 m = some (m + 21) := e_gR (k := 29) hm (Or.inr rfl)
theorem Ma29 (hm : m ≤ h.length) {i : Nat} (hi : i < 4096) : xaJ (mh m h σ) 2 (m + 21) (nI i) = some (gB σ 29 i) := e_aJ (k := 29) hm rfl hi
theorem Ms29 (hm : m ≤ h.length) {i : Nat} (hi : i < 4096) (v : Int64) : xsJ (mh m h σ) 2 (m + 21) (nI i) v = some (mh m h (sB σ 29 (vp_updL (gB σ 29) i v))) := e_sJ (k := 29) hm rfl hi v
theorem Mr30 (hm : m ≤ h.length) : xgR (mh m h σ) 12 30 m = some (m + 22) := e_gR (k := 30) hm (Or.inr rfl)
theorem Ma30 (hm : m ≤ h.length) {i : Nat} (hi : i < 4096) : xaJ (mh m h σ) 2 (m + 22) (nI i) = some (gB σ 30 i) := e_aJ (k := 30) hm rfl hi
theorem Ms30 (hm : m ≤ h.length) {i : Nat} (hi : i < 4096) (v : Int64) : xsJ (mh m h σ) 2 (m + 22) (nI i) v = some (mh m h (sB σ 30 (vp_updL (gB σ 30) i v))) := e_sJ (k := 30) hm rfl hi v
theorem Mg31 (hm : m ≤ h.length) : xgI (mh m h σ) 12 31 m = some (gI σ 31) := e_gI hm rfl
theorem Mp31 (hm : m ≤ h.length) (v : Int32) : xpI (mh m h σ) 12 31 m v = some (mh m h (sI σ 31 v)) := e_pI hm rfl v
theorem Mg32 (hm : m ≤ h.length) : xgI (mh m h σ) 12 32 m = some (gI σ 32) := e_gI hm rfl
theorem Mp32 (hm : m ≤ h.length) (v : Int32) : xpI (mh m h σ) 12 32 m v = some (mh m h (sI σ 32 v)) := e_pI hm rfl v
theorem Mr33 (hm : m ≤ h.length) : xgR (mh m h σ) 12 33 m = some (m + 23) := e_gR (k := 33) hm (Or.inl rfl)
theorem Ma33 (hm : m ≤ h.length) {i : Nat} (hi : i < 320) : xaI (mh m h σ) 0 (m + 23) (nI i) = some (gA σ 33 i) := e_aI (k := 33) hm rfl hi
theorem Ms33 (hm : m ≤ h.length) {i : Nat} (hi : i < 320) (v : Int32) : xsI (mh m h σ) 0 (m + 23) (nI i) v = some (mh m h (sA σ 33 (upd (gA σ 33) i v))) := e_sI (k := 33) hm rfl hi v
theorem Mr34 (hm : m ≤ h.length) : xgR (mh m h σ) 12 34 m = some (m + 24) := e_gR (k := 34) hm (Or.inl rfl)
theorem Ma34 (hm : m ≤ h.length) {i : Nat} (hi : i < 320) : xaI (mh m h σ) 0 (m + 24) (nI i) = some (gA σ 34 i) := e_aI (k := 34) hm rfl hi
theorem Ms34 (hm : m ≤ h.length) {i : Nat} (hi : i < 320) (v : Int32) : xsI (mh m h σ) 0 (m + 24) (nI i) v = some (mh m h (sA σ 34 (upd (gA σ 34) i v))) := e_sI (k := 34) hm rfl hi v
theorem Mr35 (hm : m ≤ h.length) : xgR (mh m h σ) 12 35 m = some (m + 25) := e_gR (k := 35) hm (Or.inl rfl)
theorem Ma35 (hm : m ≤ h.length) {i : Nat} (hi : i < 16) : xaI (mh m h σ) 1 (m + 25) (nI i) = some (gA σ 35 i) := e_aI (k := 35) hm rfl hi
theorem Ms35 (hm : m ≤ h.length) {i : Nat} (hi : i < 16) (v : Int32) : xsI (mh m h σ) 1 (m + 25) (nI i) v = some (mh m h (sA σ 35 (upd (gA σ 35) i v))) := e_sI (k := 35) hm rfl hi v
theorem Mr36 (hm : m ≤ h.length) : xgR (mh m h σ) 12 36 m = some (m + 26) := e_gR (k := 36) hm (Or.inl rfl)
theorem Ma36 (hm : m ≤ h.length) {i : Nat} (hi : i < 16) : xaI (mh m h σ) 1 (m + 26) (nI i) = some (gA σ 36 i) := e_aI (k := 36) hm rfl hi
theorem Ms36 (hm : m ≤ h.length) {i : Nat} (hi : i < 16) (v : Int32) : xsI (mh m h σ) 1 (m + 26) (nI i) v = some (mh m h (sA σ 36 (upd (gA σ 36) i v))) := e_sI (k := 36) hm rfl hi v
theorem Mr37 (hm : m ≤ h.length) : xgR (mh m h σ) 12 37 m = some (m + 27) := e_gR (k := 37) hm (Or.inr rfl)
theorem Ma37 (hm : m ≤ h.length) {i : Nat} (hi : i < 16) : xaJ (mh m h σ) 2 (m + 27) (nI i) = some (gB σ 37 i) := e_aJ (k := 37) hm rfl hi
theorem Ms37 (hm : m ≤ h.length) {i : Nat} (hi : i < 16) (v : Int64) : xsJ (mh m h σ) 2 (m + 27) (nI i) v = some (mh m h (sB σ 37 (vp_updL (gB σ 37) i v))) := e_sJ (k := 37) hm rfl hi v
theorem Mr38 (hm : m ≤ h.length) : xgR (mh m h σ) 12 38 m = some (m + 28) := e_gR (k := 38) hm (Or.inl rfl)
theorem Ma38 (hm : m ≤ h.length) {i : Nat} (hi : i < 4096) : xaI (mh m h σ) 1 (m + 28) (nI i) = some (gA σ 38 i) := e_aI (k := 38) hm rfl hi
theorem Ms38 (hm : m ≤ h.length) {i : Nat} (hi : i < 4096) (v : Int32) : xsI (mh m h σ) 1 (m + 28) (nI i) v = some (mh m h (sA σ 38 (upd (gA σ 38) i v))) := e_sI (k := 38) hm rfl hi v
theorem Mr39 (hm : m ≤ h.length) : xgR (mh m h σ) 12 39 m = some (m + 29) := e_gR (k := 39) hm (Or.inl rfl)
theorem Ma39 (hm : m ≤ h.length) {i : Nat} (hi : i < 4096) : xaI (mh m h σ) 1 (m + 29) (nI i) = some (gA σ 39 i) := e_aI (k := 39) hm rfl hi
theorem Ms39 (hm : m ≤ h.length) {i : Nat} (hi : i < 4096) (v : Int32) : xsI (mh m h σ) 1 (m + 29) (nI i) v = some (mh m h (sA σ 39 (upd (gA σ 39) i v))) := e_sI (k := 39) hm rfl hi v
theorem Mr40 (hm : m ≤ h.length) : xgR (mh m h σ) 12 40 m = some (m + 30) := e_gR (k := 40) hm (Or.inl rfl)
theorem Ma40 (hm : m ≤ h.length) {i : Nat} (hi : i < 64) : xaI (mh m h σ) 1 (m + 30) (nI i) = some (gA σ 40 i) := e_aI (k := 40) hm rfl hi
theorem Ms40 (hm : m ≤ h.length) {i : Nat} (hi : i < 64) (v : Int32) : xsI (mh m h σ) 1 (m + 30) (nI i) v = some (mh m h (sA σ 40 (upd (gA σ 40) i v))) := e_sI (k := 40) hm rfl hi v
theorem Mr41 (hm : m ≤ h.length) : xgR (mh m h σ) 12 41 m = some (m + 31) := e_gR (k := 41) hm (Or.inr rfl)
theorem Ma41 (hm : m ≤ h.length) {i : Nat} (hi : i < 4096) : xaJ (mh m h σ) 2 (m + 31) (nI i) = some (gB σ 41 i) := e_aJ (k := 41) hm rfl hi
theorem Ms41 (hm : m ≤ h.length) {i : Nat} (hi : i < 4096) (v : Int64) : xsJ (mh m h σ) 2 (m + 31) (nI i) v = some (mh m h (sB σ 41 (vp_updL (gB σ 41) i v))) := e_sJ (k := 41) hm rfl hi v
theorem Mr42 (hm : m ≤ h.length) : xgR (mh m h σ) 12 42 m = some (m + 32) := e_gR (k := 42) hm (Or.inl rfl)
theorem Ma42 (hm : m ≤ h.length) {i : Nat} (hi : i < 65536) : xaI (mh m h σ) 0 (m + 32) (nI i) = some (gA σ 42 i) := e_aI (k := 42) hm rfl hi
theorem Ms42 (hm : m ≤ h.length) {i : Nat} (hi : i < 65536) (v : Int32) : xsI (mh m h σ) 0 (m + 32) (nI i) v = some (mh m h (sA σ 42 (upd (gA σ 42) i v))) := e_sI (k := 42) hm rfl hi v
theorem Mg43 (hm : m ≤ h.length) : xgI (mh m h σ) 12 43 m = some (gI σ 43) := e_gI hm rfl
theorem Mp43 (hm : m ≤ h.length) (v : Int32) : xpI (mh m h σ) 12 43 m v = some (mh m h (sI σ 43 v)) := e_pI hm rfl v
theorem Mg44 (hm : m ≤ h.length) : xgI (mh m h σ) 12 44 m = some (gI σ 44) := e_gI hm rfl
theorem Mp44 (hm : m ≤ h.length) (v : Int32) : xpI (mh m h σ) 12 44 m v = some (mh m h (sI σ 44 v)) := e_pI hm rfl v
theorem Mr45 (hm : m ≤ h.length) : xgR (mh m h σ) 12 45 m = some (m + 33) := e_gR (k := 45) hm (Or.inl rfl)
theorem Ma45 (hm : m ≤ h.length) {i : Nat} (hi : i < 2800) : xaI (mh m h σ) 1 (m + 33) (nI i) = some (gA σ 45 i) := e_aI (k := 45) hm rfl hi
theorem Ms45 (hm : m ≤ h.length) {i : Nat} (hi : i < 2800) (v : Int32) : xsI (mh m h σ) 1 (m + 33) (nI i) v = some (mh m h (sA σ 45 (upd (gA σ 45) i v))) := e_sI (k := 45) hm rfl hi v
theorem Mr46 (hm : m ≤ h.length) : xgR (mh m h σ) 12 46 m = some (m + 34) := e_gR (k := 46) hm (Or.inl rfl)
theorem Ma46 (hm : m ≤ h.length) {i : Nat} (hi : i < 2800) : xaI (mh m h σ) 1 (m + 34) (nI i) = some (gA σ 46 i) := e_aI (k := 46) hm rfl hi
theorem Ms46 (hm : m ≤ h.length) {i : Nat} (hi : i < 2800) (v : Int32) : xsI (mh m h σ) 1 (m + 34) (nI i) v = some (mh m h (sA σ 46 (upd (gA σ 46) i v))) := e_sI (k := 46) hm rfl hi v
theorem Mr47 (hm : m ≤ h.length) : xgR (mh m h σ) 12 47 m = some (m + 35) := e_gR (k := 47) hm (Or.inr rfl)
theorem Ma47 (hm : m ≤ h.length) {i : Nat} (hi : i < 2800) : xaJ (mh m h σ) 2 (m + 35) (nI i) = some (gB σ 47 i) := e_aJ (k := 47) hm rfl hi
theorem Ms47 (hm : m ≤ h.length) {i : Nat} (hi : i < 2800) (v : Int64) : xsJ (mh m h σ) 2 (m + 35) (nI i) v = some (mh m h (sB σ 47 (vp_updL (gB σ 47) i v))) := e_sJ (k := 47) hm rfl hi v
theorem Mg48 (hm : m ≤ h.length) : xgI (mh m h σ) 12 48 m = some (gI σ 48) := e_gI hm rfl
theorem Mp48 (hm : m ≤ h.length) (v : Int32) : xpI (mh m h σ) 12 48 m v = some (mh m h (sI σ 48 v)) := e_pI hm rfl v
theorem Mr49 (hm : m ≤ h.length) : xgR (mh m h σ) 12 49 m = some (m + 36) := e_gR (k := 49) hm (Or.inl rfl)
theorem Ma49 (hm : m ≤ h.length) {i : Nat} (hi : i < 4096) : xaI (mh m h σ) 1 (m + 36) (nI i) = some (gA σ 49 i) := e_aI (k := 49) hm rfl hi
theorem Ms49 (hm : m ≤ h.length) {i : Nat} (hi : i < 4096) (v : Int32) : xsI (mh m h σ) 1 (m + 36) (nI i) v = some (mh m h (sA σ 49 (upd (gA σ 49) i v))) := e_sI (k := 49) hm rfl hi v
theorem Mg50 (hm : m ≤ h.length) : xgI (mh m h σ) 12 50 m = some (gI σ 50) := e_gI hm rfl
theorem Mp50 (hm : m ≤ h.length) (v : Int32) : xpI (mh m h σ) 12 50 m v = some (mh m h (sI σ 50 v)) := e_pI hm rfl v
theorem Mr51 (hm : m ≤ h.length) : xgR (mh m h σ) 12 51 m = some (m + 37) := e_gR (k := 51) hm (Or.inl rfl)
theorem Ma51 (hm : m ≤ h.length) {i : Nat} (hi : i < 1536) : xaI (mh m h σ) 1 (m + 37) (nI i) = some (gA σ 51 i) := e_aI (k := 51) hm rfl hi
theorem Ms51 (hm : m ≤ h.length) {i : Nat} (hi : i < 1536) (v : Int32) : xsI (mh m h σ) 1 (m + 37) (nI i) v = some (mh m h (sA σ 51 (upd (gA σ 51) i v))) := e_sI (k := 51) hm rfl hi v
theorem Mr52 (hm : m ≤ h.length) : xgR (mh m h σ) 12 52 m = some (m + 38) := e_gR (k := 52) hm (Or.inl rfl)
theorem Ma52 (hm : m ≤ h.length) {i : Nat} (hi : i < 1536) : xaI (mh m h σ) 1 (m + 38) (nI i) = some (gA σ 52 i) := e_aI (k := 52) hm rfl hi
theorem Ms52 (hm : m ≤ h.length) {i : Nat} (hi : i < 1536) (v : Int32) : xsI (mh m h σ) 1 (m + 38) (nI i) v = some (mh m h (sA σ 52 (upd (gA σ 52) i v))) := e_sI (k := 52) hm rfl hi v
theorem Mr53 (hm : m ≤ h.length) : xgR (mh m h σ) 12 53 m = some (m + 39) := e_gR (k := 53) hm (Or.inl rfl)
theorem Ma53 (hm : m ≤ h.length) {i : Nat} (hi : i < 1536) : xaI (mh m h σ) 1 (m + 39) (nI i) = some (gA σ 53 i) := e_aI (k := 53) hm rfl hi
theorem Ms53 (hm : m ≤ h.length) {i : Nat} (hi : i < 1536) (v : Int32) : xsI (mh m h σ) 1 (m + 39) (nI i) v = some (mh m h (sA σ 53 (upd (gA σ 53) i v))) := e_sI (k := 53) hm rfl hi v
theorem Mr54 (hm : m ≤ h.length) : xgR (mh m h σ) 12 54 m = some (m + 40) := e_gR (k := 54) hm (Or.inl rfl)
theorem Ma54 (hm : m ≤ h.length) {i : Nat} (hi : i < 1536) : xaI (mh m h σ) 1 (m + 40) (nI i) = some (gA σ 54 i) := e_aI (k := 54) hm rfl hi
theorem Ms54 (hm : m ≤ h.length) {i : Nat} (hi : i < 1536) (v : Int32) : xsI (mh m h σ) 1 (m + 40) (nI i) v = some (mh m h (sA σ 54 (upd (gA σ 54) i v))) := e_sI (k := 54) hm rfl hi v
theorem Mr55 (hm : m ≤ h.length) : xgR (mh m h σ) 12 55 m = some (m + 41) := e_gR (k := 55) hm (Or.inl rfl)
theorem Ma55 (hm : m ≤ h.length) {i : Nat} (hi : i < 1536) : xaI (mh m h σ) 1 (m + 41) (nI i) = some (gA σ 55 i) := e_aI (k := 55) hm rfl hi
theorem Ms55 (hm : m ≤ h.length) {i : Nat} (hi : i < 1536) (v : Int32) : xsI (mh m h σ) 1 (m + 41) (nI i) v = some (mh m h (sA σ 55 (upd (gA σ 55) i v))) := e_sI (k := 55) hm rfl hi v
theorem Mr56 (hm : m ≤ h.length) : xgR (mh m h σ) 12 56 m = some (m + 42) := e_gR (k := 56) hm (Or.inl rfl)
theorem Ma56 (hm : m ≤ h.length) {i : Nat} (hi : i < 1536) : xaI (mh m h σ) 1 (m + 42) (nI i) = some (gA σ 56 i) := e_aI (k := 56) hm rfl hi
theorem Ms56 (hm : m ≤ h.length) {i : Nat} (hi : i < 1536) (v : Int32) : xsI (mh m h σ) 1 (m + 42) (nI i) v = some (mh m h (sA σ 56 (upd (gA σ 56) i v))) := e_sI (k := 56) hm rfl hi v
theorem Mr57 (hm : m ≤ h.length) : xgR (mh m h σ) 12 57 m = some (m + 43) := e_gR (k := 57) hm (Or.inr rfl)
theorem Ma57 (hm : m ≤ h.length) {i : Nat} (hi : i < 1536) : xaJ (mh m h σ) 2 (m + 43) (nI i) = some (gB σ 57 i) := e_aJ (k := 57) hm rfl hi
theorem Ms57 (hm : m ≤ h.length) {i : Nat} (hi : i < 1536) (v : Int64) : xsJ (mh m h σ) 2 (m + 43) (nI i) v = some (mh m h (sB σ 57 (vp_updL (gB σ 57) i v))) := e_sJ (k := 57) hm rfl hi v
theorem Mr58 (hm : m ≤ h.length) : xgR (mh m h σ) 12 58 m = some (m + 44) := e_gR (k := 58) hm (Or.inr rfl)
theorem Ma58 (hm : m ≤ h.length) {i : Nat} (hi : i < 1536) : xaJ (mh m h σ) 2 (m + 44) (nI i) = some (gB σ 58 i) := e_aJ (k := 58) hm rfl hi
theorem Ms58 (hm : m ≤ h.length) {i : Nat} (hi : i < 1536) (v : Int64) : xsJ (mh m h σ) 2 (m + 44) (nI i) v = some (mh m h (sB σ 58 (vp_updL (gB σ 58) i v))) := e_sJ (k := 58) hm rfl hi v
theorem Mr59 (hm : m ≤ h.length) : xgR (mh m h σ) 12 59 m = some (m + 45) := e_gR (k := 59) hm (Or.inl rfl)
theorem Ma59 (hm : m ≤ h.length) {i : Nat} (hi : i < 3) : xaI (mh m h σ) 3 (m + 45) (nI i) = some (gA σ 59 i) := e_aI (k := 59) hm rfl hi
theorem Ms59 (hm : m ≤ h.length) {i : Nat} (hi : i < 3) (v : Int32) : xsI (mh m h σ) 3 (m + 45) (nI i) v = some (mh m h (sA σ 59 (upd (gA σ 59) i v))) := e_sI (k := 59) hm rfl hi v
theorem Mr60 (hm : m ≤ h.length) : xgR (mh m h σ) 12 60 m = some (m + 46) := e_gR (k := 60) hm (Or.inr rfl)
theorem Ma60 (hm : m ≤ h.length) {i : Nat} (hi : i < 3) : xaJ (mh m h σ) 2 (m + 46) (nI i) = some (gB σ 60 i) := e_aJ (k := 60) hm rfl hi
theorem Ms60 (hm : m ≤ h.length) {i : Nat} (hi : i < 3) (v : Int64) : xsJ (mh m h σ) 2 (m + 46) (nI i) v = some (mh m h (sB σ 60 (vp_updL (gB σ 60) i v))) := e_sJ (k := 60) hm rfl hi v
theorem Mr61 (hm : m ≤ h.length) : xgR (mh m h σ) 12 61 m = some (m + 47) := e_gR (k := 61) hm (Or.inr rfl)
theorem Ma61 (hm : m ≤ h.length) {i : Nat} (hi : i < 3) : xaJ (mh m h σ) 2 (m + 47) (nI i) = some (gB σ 61 i) := e_aJ (k := 61) hm rfl hi
theorem Ms61 (hm : m ≤ h.length) {i : Nat} (hi : i < 3) (v : Int64) : xsJ (mh m h σ) 2 (m + 47) (nI i) v = some (mh m h (sB σ 61 (vp_updL (gB σ 61) i v))) := e_sJ (k := 61) hm rfl hi v
theorem Mr62 (hm : m ≤ h.length) : xgR (mh m h σ) 12 62 m = some (m + 48) := e_gR (k := 62) hm (Or.inr rfl)
theorem Ma62 (hm : m ≤ h.length) {i : Nat} (hi : i < 3) : xaJ (mh m h σ) 2 (m + 48) (nI i) = some (gB σ 62 i) := e_aJ (k := 62) hm rfl hi
theorem Ms62 (hm : m ≤ h.length) {i : Nat} (hi : i < 3) (v : Int64) : xsJ (mh m h σ) 2 (m + 48) (nI i) v = some (mh m h (sB σ 62 (vp_updL (gB σ 62) i v))) := e_sJ (k := 62) hm rfl hi v
theorem Mr63 (hm : m ≤ h.length) : xgR (mh m h σ) 12 63 m = some (m + 49) := e_gR (k := 63) hm (Or.inr rfl)
theorem Ma63 (hm : m ≤ h.length) {i : Nat} (hi : i < 3) : xaJ (mh m h σ) 2 (m + 49) (nI i) = some (gB σ 63 i) := e_aJ (k := 63) hm rfl hi
theorem Ms63 (hm : m ≤ h.length) {i : Nat} (hi : i < 3) (v : Int64) : xsJ (mh m h σ) 2 (m + 49) (nI i) v = some (mh m h (sB σ 63 (vp_updL (gB σ 63) i v))) := e_sJ (k := 63) hm rfl hi v
theorem Mg64 (hm : m ≤ h.length) : xgJ (mh m h σ) 12 64 m = some (gJ σ 64) := e_gJ hm rfl
theorem Mp64 (hm : m ≤ h.length) (v : Int64) : xpJ (mh m h σ) 12 64 m v = some (mh m h (sJ σ 64 v)) := e_pJ hm rfl v
theorem Mr65 (hm : m ≤ h.length) : xgR (mh m h σ) 12 65 m = some (m + 50) := e_gR (k := 65) hm (Or.inl rfl)
theorem Ma65 (hm : m ≤ h.length) {i : Nat} (hi : i < 1536) : xaI (mh m h σ) 3 (m + 50) (nI i) = some (gA σ 65 i) := e_aI (k := 65) hm rfl hi
theorem Ms65 (hm : m ≤ h.length) {i : Nat} (hi : i < 1536) (v : Int32) : xsI (mh m h σ) 3 (m + 50) (nI i) v = some (mh m h (sA σ 65 (upd (gA σ 65) i v))) := e_sI (k := 65) hm rfl hi v
theorem Mr66 (hm : m ≤ h.length) : xgR (mh m h σ) 12 66 m = some (m + 51) := e_gR (k := 66) hm (Or.inl rfl)
theorem Ma66 (hm : m ≤ h.length) {i : Nat} (hi : i < 1536) : xaI (mh m h σ) 3 (m + 51) (nI i) = some (gA σ 66 i) := e_aI (k := 66) hm rfl hi
theorem Ms66 (hm : m ≤ h.length) {i : Nat} (hi : i < 1536) (v : Int32) : xsI (mh m h σ) 3 (m + 51) (nI i) v = some (mh m h (sA σ 66 (upd (gA σ 66) i v))) := e_sI (k := 66) hm rfl hi v
theorem Mr67 (hm : m ≤ h.length) : xgR (mh m h σ) 12 67 m = some (m + 52) := e_gR (k := 67) hm (Or.inl rfl)
theorem Ma67 (hm : m ≤ h.length) {i : Nat} (hi : i < 4096) : xaI (mh m h σ) 3 (m + 52) (nI i) = some (gA σ 67 i) := e_aI (k := 67) hm rfl hi
theorem Ms67 (hm : m ≤ h.length) {i : Nat} (hi : i < 4096) (v : Int32) : xsI (mh m h σ) 3 (m + 52) (nI i) v = some (mh m h (sA σ 67 (upd (gA σ 67) i v))) := e_sI (k := 67) hm rfl hi v
theorem Mg68 (hm : m ≤ h.length) : xgI (mh m h σ) 12 68 m = some (gI σ 68) := e_gI hm rfl
theorem Mp68 (hm : m ≤ h.length) (v : Int32) : xpI (mh m h σ) 12 68 m v = some (mh m h (sI σ 68 v)) := e_pI hm rfl v
theorem Mz68 (hm : m ≤ h.length) (c : Bool) : xpZ (mh m h σ) 12 68 m (bI c) = some (mh m h (sI σ 68 (bI c))) := e_pZ hm rfl c
theorem Mg69 (hm : m ≤ h.length) : xgI (mh m h σ) 12 69 m = some (gI σ 69) := e_gI hm rfl
theorem Mp69 (hm : m ≤ h.length) (v : Int32) : xpI (mh m h σ) 12 69 m v = some (mh m h (sI σ 69 v)) := e_pI hm rfl v
theorem Mg70 (hm : m ≤ h.length) : xgI (mh m h σ) 12 70 m = some (gI σ 70) := e_gI hm rfl
theorem Mp70 (hm : m ≤ h.length) (v : Int32) : xpI (mh m h σ) 12 70 m v = some (mh m h (sI σ 70 v)) := e_pI hm rfl v
theorem Mr71 (hm : m ≤ h.length) : xgR (mh m h σ) 12 71 m = some (m + 53) := e_gR (k := 71) hm (Or.inl rfl)
theorem Ma71 (hm : m ≤ h.length) {i : Nat} (hi : i < 1536) : xaI (mh m h σ) 1 (m + 53) (nI i) = some (gA σ 71 i) := e_aI (k := 71) hm rfl hi
theorem Ms71 (hm : m ≤ h.length) {i : Nat} (hi : i < 1536) (v : Int32) : xsI (mh m h σ) 1 (m + 53) (nI i) v = some (mh m h (sA σ 71 (upd (gA σ 71) i v))) := e_sI (k := 71) hm rfl hi v
theorem Mr72 (hm : m ≤ h.length) : xgR (mh m h σ) 12 72 m = some (m + 54) := e_gR (k := 72) hm (Or.inl rfl)
theorem Ma72 (hm : m ≤ h.length) {i : Nat} (hi : i < 1536) : xaI (mh m h σ) 1 (m + 54) (nI i) = some (gA σ 72 i) := e_aI (k := 72) hm rfl hi
theorem Ms72 (hm : m ≤ h.length) {i : Nat} (hi : i < 1536) (v : Int32) : xsI (mh m h σ) 1 (m + 54) (nI i) v = some (mh m h (sA σ 72 (upd (gA σ 72) i v))) := e_sI (k := 72) hm rfl hi v
theorem Mr73 (hm : m ≤ h.length) : xgR (mh m h σ) 12 73 m = some (m + 55) := e_gR (k := 73) hm (Or.inl rfl)
theorem Ma73 (hm : m ≤ h.length) {i : Nat} (hi : i < 4096) : xaI (mh m h σ) 1 (m + 55) (nI i) = some (gA σ 73 i) := e_aI (k := 73) hm rfl hi
theorem Ms73 (hm : m ≤ h.length) {i : Nat} (hi : i < 4096) (v : Int32) : xsI (mh m h σ) 1 (m + 55) (nI i) v = some (mh m h (sA σ 73 (upd (gA σ 73) i v))) := e_sI (k := 73) hm rfl hi v
theorem Mg74 (hm : m ≤ h.length) : xgI (mh m h σ) 12 74 m = some (gI σ 74) := e_gI hm rfl
theorem Mp74 (hm : m ≤ h.length) (v : Int32) : xpI (mh m h σ) 12 74 m v = some (mh m h (sI σ 74 v)) := e_pI hm rfl v
theorem Mr75 (hm : m ≤ h.length) : xgR (mh m h σ) 12 75 m = some (m + 56) := e_gR (k := 75) hm (Or.inl rfl)
theorem Ma75 (hm : m ≤ h.length) {i : Nat} (hi : i < 2800) : xaI (mh m h σ) 1 (m + 56) (nI i) = some (gA σ 75 i) := e_aI (k := 75) hm rfl hi
theorem Ms75 (hm : m ≤ h.length) {i : Nat} (hi : i < 2800) (v : Int32) : xsI (mh m h σ) 1 (m + 56) (nI i) v = some (mh m h (sA σ 75 (upd (gA σ 75) i v))) := e_sI (k := 75) hm rfl hi v
theorem Mr76 (hm : m ≤ h.length) : xgR (mh m h σ) 12 76 m = some (m + 57) := e_gR (k := 76) hm (Or.inl rfl)
theorem Ma76 (hm : m ≤ h.length) {i : Nat} (hi : i < 2800) : xaI (mh m h σ) 1 (m + 57) (nI i) = some (gA σ 76 i) := e_aI (k := 76) hm rfl hi
theorem Ms76 (hm : m ≤ h.length) {i : Nat} (hi : i < 2800) (v : Int32) : xsI (mh m h σ) 1 (m + 57) (nI i) v = some (mh m h (sA σ 76 (upd (gA σ 76) i v))) := e_sI (k := 76) hm rfl hi v
theorem Mr77 (hm : m ≤ h.length) : xgR (mh m h σ) 12 77 m = some (m + 58) := e_gR (k := 77) hm (Or.inl rfl)
theorem Ma77 (hm : m ≤ h.length) {i : Nat} (hi : i < 2800) : xaI (mh m h σ) 1 (m + 58) (nI i) = some (gA σ 77 i) := e_aI (k := 77) hm rfl hi
theorem Ms77 (hm : m ≤ h.length) {i : Nat} (hi : i < 2800) (v : Int32) : xsI (mh m h σ) 1 (m + 58) (nI i) v = some (mh m h (sA σ 77 (upd (gA σ 77) i v))) := e_sI (k := 77) hm rfl hi v
theorem Mr78 (hm : m ≤ h.length) : xgR (mh m h σ) 12 78 m = some (m + 59) := e_gR (k := 78) hm (Or.inl rfl)
theorem Ma78 (hm : m ≤ h.length) {i : Nat} (hi : i < 2800) : xaI (mh m h σ) 3 (m + 59) (nI i) = some (gA σ 78 i) := e_aI (k := 78) hm rfl hi
theorem Ms78 (hm : m ≤ h.length) {i : Nat} (hi : i < 2800) (v : Int32) : xsI (mh m h σ) 3 (m + 59) (nI i) v = some (mh m h (sA σ 78 (upd (gA σ 78) i v))) := e_sI (k := 78) hm rfl hi v
theorem Mg79 (hm : m ≤ h.length) : xgJ (mh m h σ) 12 79 m = some (gJ σ 79) := e_gJ hm rfl
theorem Mp79 (hm : m ≤ h.length) (v : Int64) : xpJ (mh m h σ) 12 79 m v = some (mh m h (sJ σ 79 v)) := e_pJ hm rfl v
theorem Mg80 (hm : m ≤ h.length) : xgJ (mh m h σ) 12 80 m = some (gJ σ 80) := e_gJ hm rfl
theorem Mp80 (hm : m ≤ h.length) (v : Int64) : xpJ (mh m h σ) 12 80 m v = some (mh m h (sJ σ 80 v)) := e_pJ hm rfl v
theorem Mg81 (hm : m ≤ h.length) : xgJ (mh m h σ) 12 81 m = some (gJ σ 81) := e_gJ hm rfl
theorem Mp81 (hm : m ≤ h.length) (v : Int64) : xpJ (mh m h σ) 12 81 m v = some (mh m h (sJ σ 81 v)) := e_pJ hm rfl v
theorem Mg82 (hm : m ≤ h.length) : xgI (mh m h σ) 12 82 m = some (gI σ 82) := e_gI hm rfl
theorem Mp82 (hm : m ≤ h.length) (v : Int32) : xpI (mh m h σ) 12 82 m v = some (mh m h (sI σ 82 v)) := e_pI hm rfl v
theorem Mz82 (hm : m ≤ h.length) (c : Bool) : xpZ (mh m h σ) 12 82 m (bI c) = some (mh m h (sI σ 82 (bI c))) := e_pZ hm rfl c
theorem Mg83 (hm : m ≤ h.length) : xgJ (mh m h σ) 12 83 m = some (gJ σ 83) := e_gJ hm rfl
theorem Mp83 (hm : m ≤ h.length) (v : Int64) : xpJ (mh m h σ) 12 83 m v = some (mh m h (sJ σ 83 v)) := e_pJ hm rfl v
theorem Mg84 (hm : m ≤ h.length) : xgJ (mh m h σ) 12 84 m = some (gJ σ 84) := e_gJ hm rfl
theorem Mp84 (hm : m ≤ h.length) (v : Int64) : xpJ (mh m h σ) 12 84 m v = some (mh m h (sJ σ 84 v)) := e_pJ hm rfl v
theorem Mg85 (hm : m ≤ h.length) : xgJ (mh m h σ) 12 85 m = some (gJ σ 85) := e_gJ hm rfl
theorem Mp85 (hm : m ≤ h.length) (v : Int64) : xpJ (mh m h σ) 12 85 m v = some (mh m h (sJ σ 85 v)) := e_pJ hm rfl v
theorem Mg86 (hm : m ≤ h.length) : xgJ (mh m h σ) 12 86 m = some (gJ σ 86) := e_gJ hm rfl
theorem Mp86 (hm : m ≤ h.length) (v : Int64) : xpJ (mh m h σ) 12 86 m v = some (mh m h (sJ σ 86 v)) := e_pJ hm rfl v
theorem Mg87 (hm : m ≤ h.length) : xgJ (mh m h σ) 12 87 m = some (gJ σ 87) := e_gJ hm rfl
theorem Mp87 (hm : m ≤ h.length) (v : Int64) : xpJ (mh m h σ) 12 87 m v = some (mh m h (sJ σ 87 v)) := e_pJ hm rfl v
theorem Mg88 (hm : m ≤ h.length) : xgI (mh m h σ) 12 88 m = some (gI σ 88) := e_gI hm rfl
theorem Mp88 (hm : m ≤ h.length) (v : Int32) : xpI (mh m h σ) 12 88 m v = some (mh m h (sI σ 88 v)) := e_pI hm rfl v
theorem Mg89 (hm : m ≤ h.length) : xgI (mh m h σ) 12 89 m = some (gI σ 89) := e_gI hm rfl
theorem Mp89 (hm : m ≤ h.length) (v : Int32) : xpI (mh m h σ) 12 89 m v = some (mh m h (sI σ 89 v)) := e_pI hm rfl v
theorem Mg90 (hm : m ≤ h.length) : xgJ (mh m h σ) 12 90 m = some (gJ σ 90) := e_gJ hm rfl
theorem Mp90 (hm : m ≤ h.length) (v : Int64) : xpJ (mh m h σ) 12 90 m v = some (mh m h (sJ σ 90 v)) := e_pJ hm rfl v
theorem Mr91 (hm : m ≤ h.length) : xgR (mh m h σ) 12 91 m = some (m + 60) := e_gR (k := 91) hm (Or.inl rfl)
theorem Ma91 (hm : m ≤ h.length) {i : Nat} (hi : i < 65536) : xaI (mh m h σ) 0 (m + 60) (nI i) = some (gA σ 91 i) := e_aI (k := 91) hm rfl hi
theorem Ms91 (hm : m ≤ h.length) {i : Nat} (hi : i < 65536) (v : Int32) : xsI (mh m h σ) 0 (m + 60) (nI i) v = some (mh m h (sA σ 91 (upd (gA σ 91) i v))) := e_sI (k := 91) hm rfl hi v
theorem Mr92 (hm : m ≤ h.length) : xgR (mh m h σ) 12 92 m = some (m + 61) := e_gR (k := 92) hm (Or.inl rfl)
theorem Ma92 (hm : m ≤ h.length) {i : Nat} (hi : i < 65540) : xaI (mh m h σ) 1 (m + 61) (nI i) = some (gA σ 92 i) := e_aI (k := 92) hm rfl hi
theorem Ms92 (hm : m ≤ h.length) {i : Nat} (hi : i < 65540) (v : Int32) : xsI (mh m h σ) 1 (m + 61) (nI i) v = some (mh m h (sA σ 92 (upd (gA σ 92) i v))) := e_sI (k := 92) hm rfl hi v
theorem Mr93 (hm : m ≤ h.length) : xgR (mh m h σ) 12 93 m = some (m + 62) := e_gR (k := 93) hm (Or.inl rfl)
theorem Ma93 (hm : m ≤ h.length) {i : Nat} (hi : i < 65540) : xaI (mh m h σ) 1 (m + 62) (nI i) = some (gA σ 93 i) := e_aI (k := 93) hm rfl hi
theorem Ms93 (hm : m ≤ h.length) {i : Nat} (hi : i < 65540) (v : Int32) : xsI (mh m h σ) 1 (m + 62) (nI i) v = some (mh m h (sA σ 93 (upd (gA σ 93) i v))) := e_sI (k := 93) hm rfl hi v
theorem Mr94 (hm : m ≤ h.length) : xgR (mh m h σ) 12 94 m = some (m + 63) := e_gR (k := 94) hm (Or.inl rfl)
theorem Ma94 (hm : m ≤ h.length) {i : Nat} (hi : i < 65540) : xaI (mh m h σ) 1 (m + 63) (nI i) = some (gA σ 94 i) := e_aI (k := 94) hm rfl hi
theorem Ms94 (hm : m ≤ h.length) {i : Nat} (hi : i < 65540) (v : Int32) : xsI (mh m h σ) 1 (m + 63) (nI i) v = some (mh m h (sA σ 94 (upd (gA σ 94) i v))) := e_sI (k := 94) hm rfl hi v
theorem Mr95 (hm : m ≤ h.length) : xgR (mh m h σ) 12 95 m = some (m + 64) := e_gR (k := 95) hm (Or.inl rfl)
theorem Ma95 (hm : m ≤ h.length) {i : Nat} (hi : i < 65540) : xaI (mh m h σ) 0 (m + 64) (nI i) = some (gA σ 95 i) := e_aI (k := 95) hm rfl hi
theorem Ms95 (hm : m ≤ h.length) {i : Nat} (hi : i < 65540) (v : Int32) : xsI (mh m h σ) 0 (m + 64) (nI i) v = some (mh m h (sA σ 95 (upd (gA σ 95) i v))) := e_sI (k := 95) hm rfl hi v
theorem Mr96 (hm : m ≤ h.length) : xgR (mh m h σ) 12 96 m = some (m + 65) := e_gR (k := 96) hm (Or.inl rfl)
theorem Ma96 (hm : m ≤ h.length) {i : Nat} (hi : i < 24) : xaI (mh m h σ) 3 (m + 65) (nI i) = some (gA σ 96 i) := e_aI (k := 96) hm rfl hi
theorem Ms96 (hm : m ≤ h.length) {i : Nat} (hi : i < 24) (v : Int32) : xsI (mh m h σ) 3 (m + 65) (nI i) v = some (mh m h (sA σ 96 (upd (gA σ 96) i v))) := e_sI (k := 96) hm rfl hi v
theorem Mr97 (hm : m ≤ h.length) : xgR (mh m h σ) 12 97 m = some (m + 66) := e_gR (k := 97) hm (Or.inl rfl)
theorem Ma97 (hm : m ≤ h.length) {i : Nat} (hi : i < 27) : xaI (mh m h σ) 0 (m + 66) (nI i) = some (gA σ 97 i) := e_aI (k := 97) hm rfl hi
theorem Ms97 (hm : m ≤ h.length) {i : Nat} (hi : i < 27) (v : Int32) : xsI (mh m h σ) 0 (m + 66) (nI i) v = some (mh m h (sA σ 97 (upd (gA σ 97) i v))) := e_sI (k := 97) hm rfl hi v
theorem Mg98 (hm : m ≤ h.length) : xgI (mh m h σ) 12 98 m = some (gI σ 98) := e_gI hm rfl
theorem Mp98 (hm : m ≤ h.length) (v : Int32) : xpI (mh m h σ) 12 98 m v = some (mh m h (sI σ 98 v)) := e_pI hm rfl v
theorem Mz98 (hm : m ≤ h.length) (c : Bool) : xpZ (mh m h σ) 12 98 m (bI c) = some (mh m h (sI σ 98 (bI c))) := e_pZ hm rfl c
theorem Mr99 (hm : m ≤ h.length) : xgR (mh m h σ) 12 99 m = some (m + 67) := e_gR (k := 99) hm (Or.inl rfl)
theorem Ma99 (hm : m ≤ h.length) {i : Nat} (hi : i < 65536) : xaI (mh m h σ) 0 (m + 67) (nI i) = some (gA σ 99 i) := e_aI (k := 99) hm rfl hi
theorem Ms99 (hm : m ≤ h.length) {i : Nat} (hi : i < 65536) (v : Int32) : xsI (mh m h σ) 0 (m + 67) (nI i) v = some (mh m h (sA σ 99 (upd (gA σ 99) i v))) := e_sI (k := 99) hm rfl hi v
theorem Mr100 (hm : m ≤ h.length) : xgR (mh m h σ) 12 100 m = some (m + 68) := e_gR (k := 100) hm (Or.inl rfl)
theorem Ma100 (hm : m ≤ h.length) {i : Nat} (hi : i < 65536) : xaI (mh m h σ) 0 (m + 68) (nI i) = some (gA σ 100 i) := e_aI (k := 100) hm rfl hi
theorem Ms100 (hm : m ≤ h.length) {i : Nat} (hi : i < 65536) (v : Int32) : xsI (mh m h σ) 0 (m + 68) (nI i) v = some (mh m h (sA σ 100 (upd (gA σ 100) i v))) := e_sI (k := 100) hm rfl hi v
theorem Mg101 (hm : m ≤ h.length) : xgI (mh m h σ) 12 101 m = some (gI σ 101) := e_gI hm rfl
theorem Mp101 (hm : m ≤ h.length) (v : Int32) : xpI (mh m h σ) 12 101 m v = some (mh m h (sI σ 101 v)) := e_pI hm rfl v
theorem Mg102 (hm : m ≤ h.length) : xgI (mh m h σ) 12 102 m = some (gI σ 102) := e_gI hm rfl
theorem Mp102 (hm : m ≤ h.length) (v : Int32) : xpI (mh m h σ) 12 102 m v = some (mh m h (sI σ 102 v)) := e_pI hm rfl v
theorem Mg103 (hm : m ≤ h.length) : xgI (mh m h σ) 12 103 m = some (gI σ 103) := e_gI hm rfl
theorem Mp103 (hm : m ≤ h.length) (v : Int32) : xpI (mh m h σ) 12 103 m v = some (mh m h (sI σ 103 v)) := e_pI hm rfl v
theorem Mg104 (hm : m ≤ h.length) : xgJ (mh m h σ) 12 104 m = some (gJ σ 104) := e_gJ hm rfl
theorem Mp104 (hm : m ≤ h.length) (v : Int64) : xpJ (mh m h σ) 12 104 m v = some (mh m h (sJ σ 104 v)) := e_pJ hm rfl v
theorem Mr105 (hm : m ≤ h.length) : xgR (mh m h σ) 12 105 m = some (m + 69) := e_gR (k := 105) hm (Or.inr rfl)
theorem Ma105 (hm : m ≤ h.length) {i : Nat} (hi : i < 8) : xaJ (mh m h σ) 2 (m + 69) (nI i) = some (gB σ 105 i) := e_aJ (k := 105) hm rfl hi
theorem Ms105 (hm : m ≤ h.length) {i : Nat} (hi : i < 8) (v : Int64) : xsJ (mh m h σ) 2 (m + 69) (nI i) v = some (mh m h (sB σ 105 (vp_updL (gB σ 105) i v))) := e_sJ (k := 105) hm rfl hi v
theorem Mr106 (hm : m ≤ h.length) : xgR (mh m h σ) 12 106 m = some (m + 70) := e_gR (k := 106) hm (Or.inr rfl)
theorem Ma106 (hm : m ≤ h.length) {i : Nat} (hi : i < 8) : xaJ (mh m h σ) 2 (m + 70) (nI i) = some (gB σ 106 i) := e_aJ (k := 106) hm rfl hi
theorem Ms106 (hm : m ≤ h.length) {i : Nat} (hi : i < 8) (v : Int64) : xsJ (mh m h σ) 2 (m + 70) (nI i) v = some (mh m h (sB σ 106 (vp_updL (gB σ 106) i v))) := e_sJ (k := 106) hm rfl hi v
theorem Mr107 (hm : m ≤ h.length) : xgR (mh m h σ) 12 107 m = some (m + 71) := e_gR (k := 107) hm (Or.inr rfl)
theorem Ma107 (hm : m ≤ h.length) {i : Nat} (hi : i < 8) : xaJ (mh m h σ) 2 (m + 71) (nI i) = some (gB σ 107 i) := e_aJ (k := 107) hm rfl hi
theorem Ms107 (hm : m ≤ h.length) {i : Nat} (hi : i < 8) (v : Int64) : xsJ (mh m h σ) 2 (m + 71) (nI i) v = some (mh m h (sB σ 107 (vp_updL (gB σ 107) i v))) := e_sJ (k := 107) hm rfl hi v
theorem Mr108 (hm : m ≤ h.length) : xgR (mh m h σ) 12 108 m = some (m + 72) := e_gR (k := 108) hm (Or.inr rfl)
theorem Ma108 (hm : m ≤ h.length) {i : Nat} (hi : i < 8) : xaJ (mh m h σ) 2 (m + 72) (nI i) = some (gB σ 108 i) := e_aJ (k := 108) hm rfl hi
theorem Ms108 (hm : m ≤ h.length) {i : Nat} (hi : i < 8) (v : Int64) : xsJ (mh m h σ) 2 (m + 72) (nI i) v = some (mh m h (sB σ 108 (vp_updL (gB σ 108) i v))) := e_sJ (k := 108) hm rfl hi v
theorem Mr109 (hm : m ≤ h.length) : xgR (mh m h σ) 12 109 m = some (m + 73) := e_gR (k := 109) hm (Or.inr rfl)
theorem Ma109 (hm : m ≤ h.length) {i : Nat} (hi : i < 8) : xaJ (mh m h σ) 2 (m + 73) (nI i) = some (gB σ 109 i) := e_aJ (k := 109) hm rfl hi
theorem Ms109 (hm : m ≤ h.length) {i : Nat} (hi : i < 8) (v : Int64) : xsJ (mh m h σ) 2 (m + 73) (nI i) v = some (mh m h (sB σ 109 (vp_updL (gB σ 109) i v))) := e_sJ (k := 109) hm rfl hi v
theorem Mr110 (hm : m ≤ h.length) : xgR (mh m h σ) 12 110 m = some (m + 74) := e_gR (k := 110) hm (Or.inr rfl)
theorem Ma110 (hm : m ≤ h.length) {i : Nat} (hi : i < 8) : xaJ (mh m h σ) 2 (m + 74) (nI i) = some (gB σ 110 i) := e_aJ (k := 110) hm rfl hi
theorem Ms110 (hm : m ≤ h.length) {i : Nat} (hi : i < 8) (v : Int64) : xsJ (mh m h σ) 2 (m + 74) (nI i) v = some (mh m h (sB σ 110 (vp_updL (gB σ 110) i v))) := e_sJ (k := 110) hm rfl hi v
theorem Mr111 (hm : m ≤ h.length) : xgR (mh m h σ) 12 111 m = some (m + 75) := e_gR (k := 111) hm (Or.inr rfl)
theorem Ma111 (hm : m ≤ h.length) {i : Nat} (hi : i < 8) : xaJ (mh m h σ) 2 (m + 75) (nI i) = some (gB σ 111 i) := e_aJ (k := 111) hm rfl hi
theorem Ms111 (hm : m ≤ h.length) {i : Nat} (hi : i < 8) (v : Int64) : xsJ (mh m h σ) 2 (m + 75) (nI i) v = some (mh m h (sB σ 111 (vp_updL (gB σ 111) i v))) := e_sJ (k := 111) hm rfl hi v
theorem Mr112 (hm : m ≤ h.length) : xgR (mh m h σ) 12 112 m = some (m + 76) := e_gR (k := 112) hm (Or.inr rfl)
theorem Ma112 (hm : m ≤ h.length) {i : Nat} (hi : i < 8) : xaJ (mh m h σ) 2 (m + 76) (nI i) = some (gB σ 112 i) := e_aJ (k := 112) hm rfl hi
theorem Ms112 (hm : m ≤ h.length) {i : Nat} (hi : i < 8) (v : Int64) : xsJ (mh m h σ) 2 (m + 76) (nI i) v = some (mh m h (sB σ 112 (vp_updL (gB σ 112) i v))) := e_sJ (k := 112) hm rfl hi v
theorem Mr113 (hm : m ≤ h.length) : xgR (mh m h σ) 12 113 m = some (m + 77) := e_gR (k := 113) hm (Or.inr rfl)
theorem Ma113 (hm : m ≤ h.length) {i : Nat} (hi : i < 8) : xaJ (mh m h σ) 2 (m + 77) (nI i) = some (gB σ 113 i) := e_aJ (k := 113) hm rfl hi
theorem Ms113 (hm : m ≤ h.length) {i : Nat} (hi : i < 8) (v : Int64) : xsJ (mh m h σ) 2 (m + 77) (nI i) v = some (mh m h (sB σ 113 (vp_updL (gB σ 113) i v))) := e_sJ (k := 113) hm rfl hi v
theorem Mr114 (hm : m ≤ h.length) : xgR (mh m h σ) 12 114 m = some (m + 78) := e_gR (k := 114) hm (Or.inr rfl)
theorem Ma114 (hm : m ≤ h.length) {i : Nat} (hi : i < 8) : xaJ (mh m h σ) 2 (m + 78) (nI i) = some (gB σ 114 i) := e_aJ (k := 114) hm rfl hi
theorem Ms114 (hm : m ≤ h.length) {i : Nat} (hi : i < 8) (v : Int64) : xsJ (mh m h σ) 2 (m + 78) (nI i) v = some (mh m h (sB σ 114 (vp_updL (gB σ 114) i v))) := e_sJ (k := 114) hm rfl hi v
theorem Mg115 (hm : m ≤ h.length) : xgI (mh m h σ) 12 115 m = some (gI σ 115) := e_gI hm rfl
theorem Mp115 (hm : m ≤ h.length) (v : Int32) : xpI (mh m h σ) 12 115 m v = some (mh m h (sI σ 115 v)) := e_pI hm rfl v
theorem Mr116 (hm : m ≤ h.length) : xgR (mh m h σ) 12 116 m = some (m + 79) := e_gR (k := 116) hm (Or.inl rfl)
theorem Ma116 (hm : m ≤ h.length) {i : Nat} (hi : i < 6) : xaI (mh m h σ) 0 (m + 79) (nI i) = some (gA σ 116 i) := e_aI (k := 116) hm rfl hi
theorem Ms116 (hm : m ≤ h.length) {i : Nat} (hi : i < 6) (v : Int32) : xsI (mh m h σ) 0 (m + 79) (nI i) v = some (mh m h (sA σ 116 (upd (gA σ 116) i v))) := e_sI (k := 116) hm rfl hi v
theorem Mr117 (hm : m ≤ h.length) : xgR (mh m h σ) 12 117 m = some (m + 80) := e_gR (k := 117) hm (Or.inl rfl)
theorem Ma117 (hm : m ≤ h.length) {i : Nat} (hi : i < 1536) : xaI (mh m h σ) 1 (m + 80) (nI i) = some (gA σ 117 i) := e_aI (k := 117) hm rfl hi
theorem Ms117 (hm : m ≤ h.length) {i : Nat} (hi : i < 1536) (v : Int32) : xsI (mh m h σ) 1 (m + 80) (nI i) v = some (mh m h (sA σ 117 (upd (gA σ 117) i v))) := e_sI (k := 117) hm rfl hi v
theorem Mr118 (hm : m ≤ h.length) : xgR (mh m h σ) 12 118 m = some (m + 81) := e_gR (k := 118) hm (Or.inl rfl)
theorem Ma118 (hm : m ≤ h.length) {i : Nat} (hi : i < 4096) : xaI (mh m h σ) 1 (m + 81) (nI i) = some (gA σ 118 i) := e_aI (k := 118) hm rfl hi
theorem Ms118 (hm : m ≤ h.length) {i : Nat} (hi : i < 4096) (v : Int32) : xsI (mh m h σ) 1 (m + 81) (nI i) v = some (mh m h (sA σ 118 (upd (gA σ 118) i v))) := e_sI (k := 118) hm rfl hi v
theorem Mr119 (hm : m ≤ h.length) : xgR (mh m h σ) 12 119 m = some (m + 82) := e_gR (k := 119) hm (Or.inl rfl)
theorem Ma119 (hm : m ≤ h.length) {i : Nat} (hi : i < 4096) : xaI (mh m h σ) 1 (m + 82) (nI i) = some (gA σ 119 i) := e_aI (k := 119) hm rfl hi
theorem Ms119 (hm : m ≤ h.length) {i : Nat} (hi : i < 4096) (v : Int32) : xsI (mh m h σ) 1 (m + 82) (nI i) v = some (mh m h (sA σ 119 (upd (gA σ 119) i v))) := e_sI (k := 119) hm rfl hi v
theorem Mr120 (hm : m ≤ h.length) : xgR (mh m h σ) 12 120 m = some (m + 83) := e_gR (k := 120) hm (Or.inl rfl)
theorem Ma120 (hm : m ≤ h.length) {i : Nat} (hi : i < 24) : xaI (mh m h σ) 1 (m + 83) (nI i) = some (gA σ 120 i) := e_aI (k := 120) hm rfl hi
theorem Ms120 (hm : m ≤ h.length) {i : Nat} (hi : i < 24) (v : Int32) : xsI (mh m h σ) 1 (m + 83) (nI i) v = some (mh m h (sA σ 120 (upd (gA σ 120) i v))) := e_sI (k := 120) hm rfl hi v
theorem Mr121 (hm : m ≤ h.length) : xgR (mh m h σ) 12 121 m = some (m + 84) := e_gR (k := 121) hm (Or.inl rfl)
theorem Ma121 (hm : m ≤ h.length) {i : Nat} (hi : i < 24) : xaI (mh m h σ) 1 (m + 84) (nI i) = some (gA σ 121 i) := e_aI (k := 121) hm rfl hi
theorem Ms121 (hm : m ≤ h.length) {i : Nat} (hi : i < 24) (v : Int32) : xsI (mh m h σ) 1 (m + 84) (nI i) v = some (mh m h (sA σ 121 (upd (gA σ 121) i v))) := e_sI (k := 121) hm rfl hi v
theorem Mr122 (hm : m ≤ h.length) : xgR (mh m h σ) 12 122 m = some (m + 85) := e_gR (k := 122) hm (Or.inl rfl)
theorem Ma122 (hm : m ≤ h.length) {i : Nat} (hi : i < 64) : xaI (mh m h σ) 1 (m + 85) (nI i) = some (gA σ 122 i) := e_aI (k := 122) hm rfl hi
theorem Ms122 (hm : m ≤ h.length) {i : Nat} (hi : i < 64) (v : Int32) : xsI (mh m h σ) 1 (m + 85) (nI i) v = some (mh m h (sA σ 122 (upd (gA σ 122) i v))) := e_sI (k := 122) hm rfl hi v
theorem Mg123 (hm : m ≤ h.length) : xgI (mh m h σ) 12 123 m = some (gI σ 123) := e_gI hm rfl
theorem Mp123 (hm : m ≤ h.length) (v : Int32) : xpI (mh m h σ) 12 123 m v = some (mh m h (sI σ 123 v)) := e_pI hm rfl v
theorem Mg124 (hm : m ≤ h.length) : xgI (mh m h σ) 12 124 m = some (gI σ 124) := e_gI hm rfl
theorem Mp124 (hm : m ≤ h.length) (v : Int32) : xpI (mh m h σ) 12 124 m v = some (mh m h (sI σ 124 v)) := e_pI hm rfl v
theorem Mg125 (hm : m ≤ h.length) : xgI (mh m h σ) 12 125 m = some (gI σ 125) := e_gI hm rfl
theorem Mp125 (hm : m ≤ h.length) (v : Int32) : xpI (mh m h σ) 12 125 m v = some (mh m h (sI σ 125 v)) := e_pI hm rfl v
theorem Mg126 (hm : m ≤ h.length) : xgI (mh m h σ) 12 126 m = some (gI σ 126) := e_gI hm rfl
theorem Mp126 (hm : m ≤ h.length) (v : Int32) : xpI (mh m h σ) 12 126 m v = some (mh m h (sI σ 126 v)) := e_pI hm rfl v
theorem Mz126 (hm : m ≤ h.length) (c : Bool) : xpZ (mh m h σ) 12 126 m (bI c) = some (mh m h (sI σ 126 (bI c))) := e_pZ hm rfl c
theorem Mg127 (hm : m ≤ h.length) : xgI (mh m h σ) 12 127 m = some (gI σ 127) := e_gI hm rfl
theorem Mp127 (hm : m ≤ h.length) (v : Int32) : xpI (mh m h σ) 12 127 m v = some (mh m h (sI σ 127 v)) := e_pI hm rfl v
theorem Mr128 (hm : m ≤ h.length) : xgR (mh m h σ) 12 128 m = some (m + 86) := e_gR (k := 128) hm (Or.inl rfl)
theorem Ma128 (hm : m ≤ h.length) {i : Nat} (hi : i < 64) : xaI (mh m h σ) 1 (m + 86) (nI i) = some (gA σ 128 i) := e_aI (k := 128) hm rfl hi
theorem Ms128 (hm : m ≤ h.length) {i : Nat} (hi : i < 64) (v : Int32) : xsI (mh m h σ) 1 (m + 86) (nI i) v = some (mh m h (sA σ 128 (upd (gA σ 128) i v))) := e_sI (k := 128) hm rfl hi v
theorem Mr129 (hm : m ≤ h.length) : xgR (mh m h σ) 12 129 m = some (m + 87) := e_gR (k := 129) hm (Or.inl rfl)
theorem Ma129 (hm : m ≤ h.length) {i : Nat} (hi : i < 64) : xaI (mh m h σ) 1 (m + 87) (nI i) = some (gA σ 129 i) := e_aI (k := 129) hm rfl hi
theorem Ms129 (hm : m ≤ h.length) {i : Nat} (hi : i < 64) (v : Int32) : xsI (mh m h σ) 1 (m + 87) (nI i) v = some (mh m h (sA σ 129 (upd (gA σ 129) i v))) := e_sI (k := 129) hm rfl hi v
end MF
end
section
/-! what the document says of an object's bytes b, n of them -/
def oS (b : Nat → Nat) : Nat := le b 60 2
def oR (b : Nat → Nat) : Nat := le b 40 8
def oT (b : Nat → Nat) (i : Nat) : Nat := le b (oR b + 64 * i + 4) 4
def oF (b : Nat → Nat) (i : Nat) : Nat := le b (oR b + 64 * i + 8) 8
def oP (b : Nat → Nat) (i : Nat) : Nat := le b (oR b + 64 * i + 24) 8
def oZ (b : Nat → Nat) (i : Nat) : Nat := le b (oR b + 64 * i + 32) 8
def oL (b : Nat → Nat) (i : Nat) : Nat := le b (oR b + 64 * i + 40) 4
def oI (b : Nat → Nat) (i : Nat) : Nat := le b (oR b + 64 * i + 44) 4
def oA (b : Nat → Nat) (i : Nat) : Nat := le b (oR b + 64 * i + 48) 8
def isP (v : Nat) : Bool := decide (1 ≤ v ∧ v ≤ 4096 ∧ v &&& (v - 1) = 0)
def oK (b : Nat → Nat) (i : Nat) : Bool := decide ((oT b i = 1 ∨ oT b i = 8) ∧ ¬ (oF b i &&& 2) = 0)
/-- the group of a kept section -/
def oG (b : Nat → Nat) (i : Nat) : Nat := if ¬ (oF b i &&& 1024) = 0 then (if oT b i = 8 then 5 else 4) else if oT b i = 8 then 3 else if ¬ (oF b i &&& 4) = 0 then 0 else if ¬ (oF b i &&& 1) = 0 then 2 else 1
def oH (b : Nat → Nat) : Bool := decide (le b 0 7 = 282584257676671 ∧ le b 16 2 = 1 ∧ le b 18 2 = 62 ∧ le b 20 4 = 1 ∧ le b 52 2 = 64 ∧ le b 58 2 = 64)
/-- the error of a section -/
def eSec (b : Nat → Nat) (n i : Nat) : Nat := if oT b i ≠ 0 ∧ oT b i ≠ 8 ∧ ¬ oP b i + oZ b i ≤ n then 3 else if oK b i = true ∧ (16384 < oZ b i ∨ oA b i ≠ 0 ∧ isP (oA b i) = false) then 4 else 0
/-- the first of f i, f (i + 1) .. (c of them) that is not 0 -/
def fst0 (f : Nat → Nat) : Nat → Nat → Nat
  | _, 0 => 0
  | i, c + 1 => if f i = 0 then fst0 f (i + 1) c else f i
/-- the first i .. with p, c of them; d without one -/
def fnd (p : Nat → Bool) (d : Nat) : Nat → Nat → Nat
  | _, 0 => d
  | i, c + 1 => if p i = true then i else fnd p d (i + 1) c
/-- all of i .., c of them -/
def al (p : Nat → Bool) : Nat → Nat → Bool
  | _, 0 => true
  | i, c + 1 => p i && al p (i + 1) c
/-- how many of i .., c of them -/
def cnt (p : Nat → Bool) : Nat → Nat → Nat
  | _, 0 => 0
  | i, c + 1 => (if p i = true then 1 else 0) + cnt p (i + 1) c
theorem fst0_s (f : Nat → Nat) (i c : Nat) : fst0 f i (c + 1) = if f i = 0 then fst0 f (i + 1) c else f i := rfl
theorem fnd_s (p : Nat → Bool) (d i c : Nat) : fnd p d i (c + 1) = if p i = true then i else fnd p d (i + 1) c := rfl
theorem al_s (p : Nat → Bool) (i c : Nat) : al p i (c + 1) = (p i && al p (i + 1) c) := rfl
theorem cnt_s (p : Nat → Bool) (i c : Nat) : cnt p i (c + 1) = (if p i = true then 1 else 0) + cnt p (i + 1) c := rfl
/-- the symbols' section, 0 without one -/
def oY (b : Nat → Nat) : Nat := fnd (fun i => decide (oT b i = 2)) 0 1 (oS b - 1)
/-- how many symbols -/
def oM (b : Nat → Nat) : Nat := if oY b = 0 then 0 else oZ b (oY b) / 24
def yP (b : Nat → Nat) (k : Nat) : Nat := oP b (oY b) + 24 * k
def yN (b : Nat → Nat) (k : Nat) : Nat := le b (yP b k) 4
def yB (b : Nat → Nat) (k : Nat) : Nat := b (yP b k + 4) / 16
def yW (b : Nat → Nat) (k : Nat) : Nat := le b (yP b k + 6) 2
def yV (b : Nat → Nat) (k : Nat) : Nat := le b (yP b k + 8) 8
def yZ (b : Nat → Nat) (k : Nat) : Nat := le b (yP b k + 16) 8
/-- the names' section -/
def oX (b : Nat → Nat) : Nat := oL b (oY b)
/-- how many bytes that are not 0 from p on, at most c -/
def run (b : Nat → Nat) : Nat → Nat → Nat
  | _, 0 => 0
  | p, c + 1 => if b p = 0 then 0 else run b (p + 1) c + 1
/-- how many bytes the name of a symbol has, or 21 -/
def yL (b : Nat → Nat) (k : Nat) : Nat := run b (oP b (oX b) + yN b k) 21
def yG (b : Nat → Nat) (k : Nat) : Bool := decide (yN b k < oZ b (oX b) ∧ 1 ≤ yL b k ∧ yL b k ≤ 20 ∧ yN b k + yL b k < oZ b (oX b))
section SPEC
variable {b : Nat → Nat}
theorem oS_lt (hb : ∀ k, b k < 256) : oS b < 65536 := le_lt hb _ 2
theorem oR_lt (hb : ∀ k, b k < 256) : oR b < 2 ^ 64 := le_lt hb _ 8
theorem oT_lt (hb : ∀ k, b k < 256) (i : Nat) : oT b i < 4294967296 := le_lt hb _ 4
theorem oF_lt (hb : ∀ k, b k < 256) (i : Nat) : oF b i < 2 ^ 64 := le_lt hb _ 8
theorem oP_lt (hb : ∀ k, b k < 256) (i : Nat) : oP b i < 2 ^ 64 := le_lt hb _ 8
theorem oZ_lt (hb : ∀ k, b k < 256) (i : Nat) : oZ b i < 2 ^ 64 := le_lt hb _ 8
theorem oL_lt (hb : ∀ k, b k < 256) (i : Nat) : oL b i < 4294967296 := le_lt hb _ 4
theorem oI_lt (hb : ∀ k, b k < 256) (i : Nat) : oI b i < 4294967296 := le_lt hb _ 4
theorem oA_lt (hb : ∀ k, b k < 256) (i : Nat) : oA b i < 2 ^ 64 := le_lt hb _ 8
theorem yN_lt (hb : ∀ k, b k < 256) (k : Nat) : yN b k < 4294967296 := le_lt hb _ 4
theorem yB_lt (hb : ∀ k, b k < 256) (k : Nat) : yB b k < 16 := by have := hb (yP b k + 4); unfold yB; omega
theorem yW_lt (hb : ∀ k, b k < 256) (k : Nat) : yW b k < 65536 := le_lt hb _ 2
theorem yV_lt (hb : ∀ k, b k < 256) (k : Nat) : yV b k < 2 ^ 64 := le_lt hb _ 8
theorem yZ_lt (hb : ∀ k, b k < 256) (k : Nat) : yZ b k < 2 ^ 64 := le_lt hb _ 8
end SPEC
theorem fnd_le {p : Nat → Bool} {d : Nat} : ∀ {i c : Nat}, fnd p d i c = d ∨ (i ≤ fnd p d i c ∧ fnd p d i c < i + c ∧ p (fnd p d i c) = true)
  | _, 0 => Or.inl rfl
  | i, c + 1 => by
    unfold fnd
    by_cases h : p i = true
    · rw [if_pos h]; exact Or.inr ⟨Nat.le_refl _, by omega, h⟩
    · rw [if_neg h]
      rcases @fnd_le p d (i + 1) c with h1 | h1
      · exact Or.inl h1
      · exact Or.inr ⟨by omega, by omega, h1.2.2⟩
end
section
/-! the reference's readers -/
section GET
variable {F : Nat} {h : px_H} {m o n : Nat} {B : Nat → Int32}
/-- the object at o has its rows within the bytes -/
def rk (B : Nat → Int32) (o n : Nat) : Prop := (64 ≤ n ∧ o + n ≤ 65536) ∧ oR (cb B o n) + 64 * oS (cb B o n) ≤ n ∧ oS (cb B o n) ≤ 24
theorem mb_o (hb : mb h m B) : ∃ fs, xo h 12 m = some fs := ⟨hb.choose, hb.choose_spec.choose_spec.1⟩
theorem q_sections (hb : mb h m B) (hF : 8 < F) (ho : 64 ≤ n ∧ o + n ≤ 65536) : f_M_sections F m (nI o) h = some (nI (oS (cb B o n)), h) := by
  obtain ⟨fs, h1⟩ := mb_o hb
  unfold f_M_sections
  rw [nI_add, q_numo hb hF (by decide) ho.2 (by omega), h1]
  simp only [bs, xb_mk, lN_i]
  rfl
theorem q_row {i : Nat} (hb : mb h m B) (hF : 8 < F) (ho : 64 ≤ n ∧ o + n ≤ 65536) : f_M_row F m (nI o) (nI i) h = some (nI (o + (oR (cb B o n) + 64 * i)), h) := by
  obtain ⟨fs, h1⟩ := mb_o hb
  unfold f_M_row
  rw [nI_add, q_numo hb hF (by decide) ho.2 (by omega), h1]
  simp only [bs, xb_mk, lN_i]
  rw [pk_mul, nI_add, nI_add, Nat.add_assoc]
  rfl
theorem q_type {i : Nat} (hb : mb h m B) (hF : 8 < F) (ho : rk B o n) (hi : i < oS (cb B o n)) : f_M_type F m (nI o) (nI i) h = some (lN (oT (cb B o n) i), h) := by
  obtain ⟨fs, h1⟩ := mb_o hb
  have h2 := ho.2.1
  unfold f_M_type
  rw [h1, q_row hb hF ho.1]
  simp only [bs, xb_mk]
  rw [nI_add, h1, Nat.add_assoc, q_numo hb hF (by decide) ho.1.2 (by omega)]
  simp only [bs, xb_mk, oT]
theorem q_flagsOf {i : Nat} (hb : mb h m B) (hF : 8 < F) (ho : rk B o n) (hi : i < oS (cb B o n)) : f_M_flagsOf F m (nI o) (nI i) h = some (lN (oF (cb B o n) i), h) := by
  obtain ⟨fs, h1⟩ := mb_o hb
  have h2 := ho.2.1
  unfold f_M_flagsOf
  rw [h1, q_row hb hF ho.1]
  simp only [bs, xb_mk]
  rw [nI_add, h1, Nat.add_assoc, q_numo hb hF (by decide) ho.1.2 (by omega)]
  simp only [bs, xb_mk, oF]
theorem q_beginning {i : Nat} (hb : mb h m B) (hF : 8 < F) (ho : rk B o n) (hi : i < oS (cb B o n)) : f_M_beginning F m (nI o) (nI i) h = some (lN (oP (cb B o n) i), h) := by
  obtain ⟨fs, h1⟩ := mb_o hb
  have h2 := ho.2.1
  unfold f_M_beginning
  rw [h1, q_row hb hF ho.1]
  simp only [bs, xb_mk]
  rw [nI_add, h1, Nat.add_assoc, q_numo hb hF (by decide) ho.1.2 (by omega)]
  simp only [bs, xb_mk, oP]
theorem q_size {i : Nat} (hb : mb h m B) (hF : 8 < F) (ho : rk B o n) (hi : i < oS (cb B o n)) : f_M_size F m (nI o) (nI i) h = some (lN (oZ (cb B o n) i), h) := by
  obtain ⟨fs, h1⟩ := mb_o hb
  have h2 := ho.2.1
  unfold f_M_size
  rw [h1, q_row hb hF ho.1]
  simp only [bs, xb_mk]
  rw [nI_add, h1, Nat.add_assoc, q_numo hb hF (by decide) ho.1.2 (by omega)]
  simp only [bs, xb_mk, oZ]
theorem q_linkOf {i : Nat} (hb : mb h m B) (hF : 8 < F) (ho : rk B o n) (hi : i < oS (cb B o n)) : f_M_linkOf F m (nI o) (nI i) h = some (lN (oL (cb B o n) i), h) := by
  obtain ⟨fs, h1⟩ := mb_o hb
  have h2 := ho.2.1
  unfold f_M_linkOf
  rw [h1, q_row hb hF ho.1]
  simp only [bs, xb_mk]
  rw [nI_add, h1, Nat.add_assoc, q_numo hb hF (by decide) ho.1.2 (by omega)]
  simp only [bs, xb_mk, oL]
theorem q_info {i : Nat} (hb : mb h m B) (hF : 8 < F) (ho : rk B o n) (hi : i < oS (cb B o n)) : f_M_info F m (nI o) (nI i) h = some (lN (oI (cb B o n) i), h) := by
  obtain ⟨fs, h1⟩ := mb_o hb
  have h2 := ho.2.1
  unfold f_M_info
  rw [h1, q_row hb hF ho.1]
  simp only [bs, xb_mk]
  rw [nI_add, h1, Nat.add_assoc, q_numo hb hF (by decide) ho.1.2 (by omega)]
  simp only [bs, xb_mk, oI]
theorem q_align {i : Nat} (hb : mb h m B) (hF : 8 < F) (ho : rk B o n) (hi : i < oS (cb B o n)) : f_M_align F m (nI o) (nI i) h = some (lN (oA (cb B o n) i), h) := by
  obtain ⟨fs, h1⟩ := mb_o hb
  have h2 := ho.2.1
  unfold f_M_align
  rw [h1, q_row hb hF ho.1]
  simp only [bs, xb_mk]
  rw [nI_add, h1, Nat.add_assoc, q_numo hb hF (by decide) ho.1.2 (by omega)]
  simp only [bs, xb_mk, oA]
theorem q_isKept {i : Nat} (hb : mb h m B) (hF : 8 < F) (ho : rk B o n) (hi : i < oS (cb B o n)) : f_M_isKept F m (nI o) (nI i) h = some (bI (oK (cb B o n) i), h) := by
  obtain ⟨fs, h1⟩ := mb_o hb
  have e1 := oT_lt (cb_lt B o n) i
  have e2 := oF_lt (cb_lt B o n) i
  have k2 : (2 : Int64) = lN 2 := rfl
  have k8 : (8 : Int64) = lN 8 := rfl
  have a1 := lEQ (show oT (cb B o n) i < 2 ^ 64 by omega) (show 1 < 2 ^ 64 by decide)
  have a2 := lEQ (show oT (cb B o n) i < 2 ^ 64 by omega) (show 8 < 2 ^ 64 by decide)
  have a3 := lEQ (show oF (cb B o n) i &&& 2 < 2 ^ 64 from Nat.lt_of_le_of_lt Nat.and_le_right (by decide)) (show 0 < 2 ^ 64 by decide)
  have a4 := wb_and e2 (show 2 < 2 ^ 64 by decide)
  simp only [f_M_isKept, f_M_isKept_24, f_M_isKept_43, f_M_isKept_44, h1, q_type hb hF ho hi, q_flagsOf hb hF ho hi, bs, xb_mk, k2, k8, a1, a2, a3, a4, xz_0, xz_1]
  by_cases c1 : oT (cb B o n) i = 1 <;> by_cases c2 : oT (cb B o n) i = 8 <;> by_cases c3 : (oF (cb B o n) i &&& 2) = 0 <;> simp [oK, c1, c2, c3]
theorem q_isPower {v : Nat} (hv : v < 2 ^ 64) : f_M_isPower F (lN v) h = some (bI (isP v), h) := by
  simp only [f_M_isPower, f_M_isPower_28, f_M_isPower_29, xz_0, xz_1, lk]
  by_cases c1 : v < 2 ^ 63
  · simp only [pk_lLT c1 (show 1 < 2 ^ 63 by decide), pk_lLT (show 4096 < 2 ^ 63 by decide) c1]
    by_cases c2 : v < 1
    · rw [if_pos c2]
      simp [isP, show ¬ 1 ≤ v by omega]
    · rw [if_neg c2]
      by_cases c3 : 4096 < v
      · rw [if_pos c3]
        simp [isP, show ¬ v ≤ 4096 by omega]
      · rw [if_neg c3, lN_sub (by omega), wb_and hv (by omega)]
        have e : (v &&& (v - 1)) < 2 ^ 64 := Nat.lt_of_le_of_lt Nat.and_le_left hv
        simp only [lEQ e (show 0 < 2 ^ 64 by decide)]
        by_cases c4 : (v &&& (v - 1)) = 0
        · rw [if_pos c4]; simp [isP, c4, show 1 ≤ v by omega, show v ≤ 4096 by omega]
        · rw [if_neg c4]; simp [isP, c4]
  · have e : lN v < lN 1 := by
      rw [Int64.lt_iff_toInt_lt, lN_ti hv, if_neg c1]
      show (v : Int) - 2 ^ 64 < 1
      omega
    rw [if_pos e]
    simp [isP, show ¬ v ≤ 4096 by omega]
theorem q_lies {a c n : Nat} (ha : a < 2 ^ 64) (hc : c < 2 ^ 64) (hn : n < 2 ^ 62) : f_M_lies F (lN a) (lN c) (lN n) h = some (bI (decide (a + c ≤ n)), h) := by
  simp only [f_M_lies, f_M_lies_32, f_M_lies_33, xz_0, xz_1]
  by_cases c1 : c < 2 ^ 63
  · by_cases c2 : a < 2 ^ 63
    · rw [if_neg (by rw [pk_lLT c1 (by decide)]; omega), if_neg (by rw [pk_lLT c2 (by decide)]; omega)]
      by_cases c3 : n < c
      · rw [if_pos (by rw [pk_lLT (by omega) c1]; exact c3)]
        simp [show ¬ a + c ≤ n by omega]
      · rw [if_neg (by rw [pk_lLT (by omega) c1]; exact c3), lN_sub (by omega)]
        by_cases c4 : n - c < a
        · rw [if_pos (by rw [pk_lLT (by omega) c2]; exact c4)]
          simp [show ¬ a + c ≤ n by omega]
        · rw [if_neg (by rw [pk_lLT (by omega) c2]; exact c4)]
          simp [show a + c ≤ n by omega]
    · have e : lN a < lN 0 := by
        rw [Int64.lt_iff_toInt_lt, lN_ti ha, if_neg c2]
        show (a : Int) - 2 ^ 64 < 0
        omega
      rw [if_neg (by rw [pk_lLT c1 (by decide)]; omega), if_pos e]
      simp [show ¬ a + c ≤ n by omega]
  · have e : lN c < lN 0 := by
      rw [Int64.lt_iff_toInt_lt, lN_ti hc, if_neg c1]
      show (c : Int) - 2 ^ 64 < 0
      omega
    rw [if_pos e]
    simp [show ¬ a + c ≤ n by omega]
end GET
end
section
/-! the reference's readers of symbols -/
section SYM
variable {F : Nat} {h : px_H} {m o n : Nat} {B : Nat → Int32}
theorem q_group {i : Nat} (hb : mb h m B) (hF : 8 < F) (ho : rk B o n) (hi : i < oS (cb B o n)) : f_M_group F m (nI o) (nI i) h = some (nI (oG (cb B o n) i), h) := by
  obtain ⟨fs, h1⟩ := mb_o hb
  have e1 := oT_lt (cb_lt B o n) i
  have e2 := oF_lt (cb_lt B o n) i
  have a2 := lEQ (show oT (cb B o n) i < 2 ^ 64 by omega) (show 8 < 2 ^ 64 by decide)
  have b1 := lEQ (show oF (cb B o n) i &&& 1024 < 2 ^ 64 from Nat.lt_of_le_of_lt Nat.and_le_right (by decide)) (show 0 < 2 ^ 64 by decide)
  have b2 := lEQ (show oF (cb B o n) i &&& 4 < 2 ^ 64 from Nat.lt_of_le_of_lt Nat.and_le_right (by decide)) (show 0 < 2 ^ 64 by decide)
  have b3 := lEQ (show oF (cb B o n) i &&& 1 < 2 ^ 64 from Nat.lt_of_le_of_lt Nat.and_le_right (by decide)) (show 0 < 2 ^ 64 by decide)
  have c1 := wb_and e2 (show 1024 < 2 ^ 64 by decide)
  have c2 := wb_and e2 (show 4 < 2 ^ 64 by decide)
  have c3 := wb_and e2 (show 1 < 2 ^ 64 by decide)
  have k0 : (0 : Int32) = nI 0 := rfl
  have k1 : (nI 1 = nI 0) ↔ False := by decide
  simp only [f_M_group, f_M_group_18, f_M_group_43, f_M_group_89, h1, q_type hb hF ho hi, q_flagsOf hb hF ho hi, bs, xb_mk, lk, a2, b1, b2, b3, c1, c2, c3, k0, k1, if_true, if_false]
  by_cases d1 : oT (cb B o n) i = 8 <;> by_cases d2 : (oF (cb B o n) i &&& 1024) = 0 <;> by_cases d3 : (oF (cb B o n) i &&& 4) = 0 <;> by_cases d4 : (oF (cb B o n) i &&& 1) = 0 <;> simp only [oG, d1, d2, d3, d4, k1, if_true, if_false, not_true_eq_false, not_false_eq_true]
theorem q_symbols_2 (hb : mb h m B) (hF : 8 < F) (ho : rk B o n) : ∀ (c i f : Nat), i + c = oS (cb B o n) → c < f → f_M_symbols_2 F f m (nI o) (nI i) h = some (nI (fnd (fun i => decide (oT (cb B o n) i = 2)) 0 i c), h) := by
  obtain ⟨fs, h1⟩ := mb_o hb
  have hs := ho.2.2
  intro c
  induction c with
  | zero =>
    intro i f hi hf
    cases f with
    | zero => omega
    | succ f =>
      unfold f_M_symbols_2
      rw [h1, q_sections hb hF ho.1]
      simp only [bs, xb_mk]
      rw [if_pos (nI_le (by omega) (by omega))]
      rfl
  | succ c ih =>
    intro i f hi hf
    cases f with
    | zero => omega
    | succ f =>
      have e1 := oT_lt (cb_lt B o n) i
      have a1 := lEQ (show oT (cb B o n) i < 2 ^ 64 by omega) (show 2 < 2 ^ 64 by decide)
      unfold f_M_symbols_2
      rw [h1, q_sections hb hF ho.1]
      simp only [bs, xb_mk]
      rw [if_neg (nI_ge (by omega) (by omega)), h1, q_type hb hF ho (by omega)]
      simp only [bs, xb_mk, lk, a1]
      unfold fnd
      by_cases c1 : oT (cb B o n) i = 2
      · rw [if_pos c1, if_pos (decide_eq_true c1)]
        rfl
      · rw [if_neg c1, if_neg (by simp [c1]), nI_add]
        exact ih (i + 1) f (by omega) (by omega)
theorem q_symbols (hb : mb h m B) (hF : 24 < F) (ho : rk B o n) (hs : 1 ≤ oS (cb B o n)) : f_M_symbols F m (nI o) h = some (nI (oY (cb B o n)), h) := by
  unfold f_M_symbols oY
  have := ho.2.2
  exact q_symbols_2 hb (by omega) ho _ _ _ (by omega) (by omega)
theorem oY_lt {b : Nat → Nat} (hs : 1 ≤ oS b) : oY b < oS b := by
  unfold oY
  rcases @fnd_le (fun i => decide (oT b i = 2)) 0 1 (oS b - 1) with h1 | h1 <;> omega
theorem oY_T {b : Nat → Nat} (hs : oY b ≠ 0) : oT b (oY b) = 2 := by
  unfold oY at hs ⊢
  rcases @fnd_le (fun i => decide (oT b i = 2)) 0 1 (oS b - 1) with h1 | h1
  · exact absurd h1 hs
  · exact of_decide_eq_true h1.2.2
theorem q_symbolMany (hb : mb h m B) (hF : 24 < F) (ho : rk B o n) (hs : 1 ≤ oS (cb B o n)) (hz : oY (cb B o n) ≠ 0 → oZ (cb B o n) (oY (cb B o n)) < 2 ^ 31) : f_M_symbolMany F m (nI o) h = some (nI (oM (cb B o n)), h) := by
  obtain ⟨fs, h1⟩ := mb_o hb
  have hy := oY_lt hs
  have := ho.2.2
  have k0 : (0 : Int32) = nI 0 := rfl
  unfold f_M_symbolMany f_M_symbolMany_24 oM
  rw [h1, q_symbols hb hF ho hs]
  simp only [bs, xb_mk, k0, nI_eq (show oY (cb B o n) < 2 ^ 31 by omega) (show 0 < 2 ^ 31 by decide)]
  by_cases c : oY (cb B o n) = 0
  · rw [if_pos c, if_pos c]
  · rw [if_neg c, if_neg c, h1, q_size hb (by omega) ho hy]
    simp only [bs, xb_mk, lN_i]
    rw [pk_div (hz c) (by decide) (by decide)]
theorem q_symbol {k : Nat} (hb : mb h m B) (hF : 24 < F) (ho : rk B o n) (hs : 1 ≤ oS (cb B o n)) : f_M_symbol F m (nI o) (nI k) h = some (nI (o + yP (cb B o n) k), h) := by
  obtain ⟨fs, h1⟩ := mb_o hb
  unfold f_M_symbol
  rw [h1, q_symbols hb hF ho hs]
  simp only [bs, xb_mk]
  rw [h1, q_beginning hb (by omega) ho (oY_lt hs)]
  simp only [bs, xb_mk, lN_i]
  rw [pk_mul, nI_add, nI_add, Nat.add_assoc]
  rfl
theorem q_where {k : Nat} (hb : mb h m B) (hF : 24 < F) (ho : rk B o n) (hs : 1 ≤ oS (cb B o n)) (hk : yP (cb B o n) k + 24 ≤ n) : f_M_where F m (nI o) (nI k) h = some (nI (yW (cb B o n) k), h) := by
  obtain ⟨fs, h1⟩ := mb_o hb
  unfold f_M_where
  rw [h1, q_symbol hb hF ho hs]
  simp only [bs, xb_mk]
  rw [h1, nI_add, Nat.add_assoc, q_numo hb (by omega) (by decide) ho.1.2 (by omega)]
  simp only [bs, xb_mk, lN_i, yW]
theorem q_value {k : Nat} (hb : mb h m B) (hF : 24 < F) (ho : rk B o n) (hs : 1 ≤ oS (cb B o n)) (hk : yP (cb B o n) k + 24 ≤ n) : f_M_value F m (nI o) (nI k) h = some (lN (yV (cb B o n) k), h) := by
  obtain ⟨fs, h1⟩ := mb_o hb
  unfold f_M_value
  rw [h1, q_symbol hb hF ho hs]
  simp only [bs, xb_mk]
  rw [h1, nI_add, Nat.add_assoc, q_numo hb (by omega) (by decide) ho.1.2 (by omega)]
  simp only [bs, xb_mk, yV]
theorem ar16 {y n : Nat} (h : y + 24 ≤ n) : y + 16 + 8 ≤ n := by omega
theorem q_symbolSize {k : Nat} (hb : mb h m B) (hF : 24 < F) (ho : rk B o n) (hs : 1 ≤ oS (cb B o n)) (hk : yP (cb B o n) k + 24 ≤ n) : f_M_symbolSize F m (nI o) (nI k) h = some (lN (yZ (cb B o n) k), h) := by
  obtain ⟨fs, h1⟩ := mb_o hb
  unfold f_M_symbolSize
  rw [h1, q_symbol hb hF ho hs]
  simp only [bs, xb_mk]
  rw [h1, nI_add, Nat.add_assoc, q_numo hb (by omega) (by decide) ho.1.2 (ar16 hk)]
  simp only [bs, xb_mk, yZ]
theorem q_bind {k : Nat} (hb : mb h m B) (hF : 24 < F) (ho : rk B o n) (hs : 1 ≤ oS (cb B o n)) (hk : yP (cb B o n) k + 24 ≤ n) : f_M_bind F m (nI o) (nI k) h = some (nI (yB (cb B o n) k), h) := by
  obtain ⟨fs, q, h1, h2, h3, h4⟩ := id hb
  have hon := ho.1.2
  unfold f_M_bind yB
  rw [cb_at (show yP (cb B o n) k + 4 < n by omega), h2, h1, bs, bs, q_symbol hb hF ho hs, xb_mk, nI_add, xaI_at h3 (by decide) (by omega), bs, isB_hi (h4 _), Nat.add_assoc]
end SYM
end
section
/-! what has been found of an object when its sections, its symbols are looked at -/
def w1 (b : Nat → Nat) (n : Nat) : Prop := 64 ≤ n ∧ (1 ≤ oS b ∧ oS b ≤ 24) ∧ oR b + 64 * oS b ≤ n ∧ (∀ i, i < oS b → oT b i ≠ 0 → oT b i ≠ 8 → oP b i + oZ b i ≤ n) ∧ (∀ i, i < oS b → oK b i = true → oZ b i ≤ 16384)
def w2 (b : Nat → Nat) (n : Nat) : Prop := w1 b n ∧ (oY b ≠ 0 → oZ b (oY b) % 24 = 0 ∧ oZ b (oY b) ≤ 1536 ∧ oX b < oS b ∧ oT b (oX b) = 3)
theorem w1_rk {B : Nat → Int32} {o n : Nat} (h : w1 (cb B o n) n) (hn : o + n ≤ 65536) : rk B o n := ⟨⟨h.1, hn⟩, h.2.2.1, h.2.1.2⟩
theorem ar_y {n P Z k : Nat} (h1 : P + Z ≤ n) (hk : k < Z / 24) : P + 24 * k + 24 ≤ n := by omega
theorem w2_y {b : Nat → Nat} {n k : Nat} (h : w2 b n) (hk : k < oM b) : yP b k + 24 ≤ n := by
  unfold oM at hk
  by_cases c : oY b = 0
  · rw [if_pos c] at hk; exact absurd hk (Nat.not_lt_zero _)
  · rw [if_neg c] at hk
    have ht := oY_T c
    exact ar_y (h.1.2.2.2.1 _ (oY_lt h.1.2.1.1) (by rw [ht]; decide) (by rw [ht]; decide)) hk
theorem w2_z {b : Nat → Nat} {n : Nat} (h : w2 b n) : oY b ≠ 0 → oZ b (oY b) < 2 ^ 31 := fun c => Nat.lt_of_le_of_lt (h.2 c).2.1 (by decide)
theorem w2_M {b : Nat → Nat} {n : Nat} (h : w2 b n) : oM b ≤ 64 := by
  unfold oM
  by_cases c : oY b = 0
  · rw [if_pos c]; exact Nat.zero_le _
  · rw [if_neg c]
    have := (h.2 c).2.1
    generalize oZ b (oY b) = z at this ⊢
    omega
theorem w2_M0 {b : Nat → Nat} {k : Nat} (hk : k < oM b) : oY b ≠ 0 := by
  intro c
  unfold oM at hk
  rw [if_pos c] at hk
  exact absurd hk (Nat.not_lt_zero _)
theorem w2_x {b : Nat → Nat} {n : Nat} (h : w2 b n) (c : oY b ≠ 0) : oP b (oX b) + oZ b (oX b) ≤ n := h.1.2.2.2.1 _ (h.2 c).2.2.1 (by rw [(h.2 c).2.2.2]; decide) (by rw [(h.2 c).2.2.2]; decide)
/-- whether a symbol is as told -/
def yOK (b : Nat → Nat) (k : Nat) : Bool := decide (yB b k ≤ 2 ∧ (yW b k = 0 ∨ yW b k = 65521 ∨ yW b k = 65522 ∨ yW b k < oS b) ∧ (yB b k = 0 → yW b k ≠ 65522) ∧ (yB b k ≠ 0 → (0 < yW b k → yW b k < oS b → oK b (yW b k) = true) ∧ yG b k = true ∧ (yW b k = 65522 → isP (yV b k) = true ∧ yZ b k ≤ 16384)))
section CHK
variable {F : Nat} {h : px_H} {m o n : Nat} {B : Nat → Int32}
theorem ar_n {o P f l Z n : Nat} (hn : o + n ≤ 65536) (hp : P + Z ≤ n) (hl : f + l < Z) : o + (P + f + l) < 65536 := by omega
theorem q_isName_85 {f Z l : Nat} (hf : f < 4294967296) (hZ : Z < 2 ^ 62) (hl : l ≤ 21) : f_M_isName_85 F (lN f) (lN Z) (nI l) h = some (bI (decide (1 ≤ l ∧ l ≤ 20 ∧ f + l < Z)), h) := by
  have k0 : (0 : Int32) = nI 0 := rfl
  simp only [f_M_isName_85, f_M_isName_113, f_M_isName_114, xz_0, xz_1, nI_l (show l < 2 ^ 31 by omega), lN_add, pk_lLE (show Z < 2 ^ 63 by omega) (show f + l < 2 ^ 63 by omega), k0, nI_leI (show l < 2 ^ 31 by omega) (show 0 < 2 ^ 31 by decide), nI_ltI (show 20 < 2 ^ 31 by decide) (show l < 2 ^ 31 by omega)]
  by_cases c1 : Z ≤ f + l
  · rw [if_pos c1, decide_eq_false (by omega)]
  · rw [if_neg c1]
    by_cases c2 : l ≤ 0
    · rw [if_pos c2, decide_eq_false (by omega)]
    · rw [if_neg c2]
      by_cases c3 : 20 < l
      · rw [if_pos c3, decide_eq_false (by omega)]
      · rw [if_neg c3, decide_eq_true (by omega)]
theorem q_isName_36 {X f P Z : Nat} (hb : mb h m B) (hF : 24 < F) (ho : rk B o n) (hn : o + n ≤ 65536) (hX : X < oS (cb B o n)) (hP : oP (cb B o n) X = P) (hPZ : P + Z ≤ n) (hf : f < 4294967296) : ∀ (c l g : Nat), l + c = 21 → c < g → f_M_isName_36 F g m (nI o) (nI X) (lN f) (lN Z) (nI l) h = some (bI (decide (1 ≤ l + run (cb B o n) (P + f + l) c ∧ l + run (cb B o n) (P + f + l) c ≤ 20 ∧ f + (l + run (cb B o n) (P + f + l) c) < Z)), h) := by
  obtain ⟨fs, q, h1, h2, h3, h4⟩ := id hb
  have k0 : (0 : Int32) = nI 0 := rfl
  intro c
  induction c with
  | zero =>
    intro l g hl hg
    obtain ⟨g, rfl⟩ : ∃ g', g = g' + 1 := ⟨g - 1, by omega⟩
    unfold f_M_isName_36
    rw [if_pos (show nI 20 < nI l from nI_lt (by omega) (by omega)), ite_self, q_isName_85 hf (by omega) (by omega)]
    rfl
  | succ c ih =>
    intro l g hl hg
    obtain ⟨g, rfl⟩ : ∃ g', g = g' + 1 := ⟨g - 1, by omega⟩
    unfold f_M_isName_36
    rw [nI_l (show l < 2 ^ 31 by omega), lN_add, if_neg (show ¬ nI 20 < nI l from nI_nlt (by omega) (by omega))]
    simp only [pk_lLE (show Z < 2 ^ 63 by omega) (show f + l < 2 ^ 63 by omega)]
    by_cases c1 : Z ≤ f + l
    · rw [if_pos c1, q_isName_85 hf (by omega) (by omega), decide_eq_false (by omega), decide_eq_false (by generalize run (cb B o n) (P + f + l) (c + 1) = r; omega)]
    · have e1 : o + (P + f + l) < 65536 := ar_n hn hPZ (by omega)
      rw [if_neg c1, h2, bs, h1, bs, q_beginning hb (by omega) ho hX, xb_mk, lN_i, lN_i, hP, nI_add, nI_add, nI_add, show o + P + f + l = o + (P + f + l) by omega, xaI_at h3 (by decide) e1, bs]
      simp only [k0, isB_eq (h4 (o + (P + f + l))) (show 0 < 128 by decide)]
      unfold run
      by_cases c2 : b8 (B (o + (P + f + l))) = 0
      · rw [if_pos c2, if_pos (show cb B o n (P + f + l) = 0 by rw [cb_at (by omega)]; exact c2), q_isName_85 hf (by omega) (by omega)]
        rfl
      · rw [if_neg c2, if_neg (show ¬ cb B o n (P + f + l) = 0 by rw [cb_at (by omega)]; exact c2), nI_add, ih (l + 1) g (by omega) (by omega), show P + f + l + 1 = P + f + (l + 1) by omega]
        generalize run (cb B o n) (P + f + (l + 1)) c = r
        rw [show l + (r + 1) = l + 1 + r by omega]
theorem q_isName {k : Nat} (hb : mb h m B) (hF : 24 < F) (hw : w2 (cb B o n) n) (hn : o + n ≤ 65536) (hk : k < oM (cb B o n)) : f_M_isName F m (nI o) (nI k) h = some (bI (yG (cb B o n) k), h) := by
  obtain ⟨fs, h1⟩ := mb_o hb
  have ho := w1_rk hw.1 hn
  have hs := hw.1.2.1.1
  have c := w2_M0 hk
  have hX := (hw.2 c).2.2.1
  have hy := w2_y hw hk
  have hPZ := w2_x hw c
  have e1 := yN_lt (cb_lt B o n) k
  unfold f_M_isName
  rw [h1, bs, q_symbols hb hF ho hs, xb_mk, h1, bs, q_linkOf hb (by omega) ho (oY_lt hs), xb_mk, h1, bs, q_symbol hb hF ho hs, xb_mk, h1, bs, q_numo (k := 4) hb (by omega) (by decide) hn (Nat.le_trans (Nat.add_le_add_left (show 4 ≤ 24 by decide) _) hy), xb_mk, h1, bs, lN_i]
  rw [show oL (cb B o n) (oY (cb B o n)) = oX (cb B o n) from rfl, q_size hb (by omega) ho hX, xb_mk, show le (cb B o n) (yP (cb B o n) k) 4 = yN (cb B o n) k from rfl]
  have e2 := q_isName_36 (h := h) (m := m) (P := oP (cb B o n) (oX (cb B o n))) (Z := oZ (cb B o n) (oX (cb B o n))) hb hF ho hn hX rfl hPZ e1 21 0 F rfl (by omega)
  rw [show (nI 0) = nI 0 from rfl, e2]
  unfold yG yL
  rw [Nat.add_zero, Nat.zero_add]
  generalize run (cb B o n) (oP (cb B o n) (oX (cb B o n)) + yN (cb B o n) k) 21 = r
  generalize oZ (cb B o n) (oX (cb B o n)) = z
  generalize yN (cb B o n) k = y
  rw [decide_eq_decide.mpr (show (1 ≤ r ∧ r ≤ 20 ∧ y + r < z) ↔ (y < z ∧ 1 ≤ r ∧ r ≤ 20 ∧ y + r < z) by omega)]
theorem lN_neg {a : Nat} (h : a < 2 ^ 64) : lN a < lN 0 ↔ 2 ^ 63 ≤ a := by
  rw [Int64.lt_iff_toInt_lt, lN_ti h]
  show (if a < 2 ^ 63 then (a : Int) else (a : Int) - 2 ^ 64) < 0 ↔ _
  split <;> omega
theorem q_isSymbol {k : Nat} (hb : mb h m B) (hF : 24 < F) (hw : w2 (cb B o n) n) (hn : o + n ≤ 65536) (hk : k < oM (cb B o n)) : f_M_isSymbol F m (nI o) (nI k) h = some (bI (yOK (cb B o n) k), h) := by
  obtain ⟨fs, h1⟩ := mb_o hb
  have ho := w1_rk hw.1 hn
  have hs := hw.1.2.1.1
  have hs2 := hw.1.2.1.2
  have hy := w2_y hw hk
  have eW := yW_lt (cb_lt B o n) k
  have eB := yB_lt (cb_lt B o n) k
  have eV := yV_lt (cb_lt B o n) k
  have eZ := yZ_lt (cb_lt B o n) k
  have k0 : (0 : Int32) = nI 0 := rfl
  have k1 : (65521 : Int32) = nI 65521 := rfl
  have k2 : (65522 : Int32) = nI 65522 := rfl
  have k10 : (nI 1 = nI 0) ↔ False := by decide
  have qK : ∀ {i}, i < oS (cb B o n) → f_M_isKept F m (nI o) (nI i) h = some (bI (oK (cb B o n) i), h) := fun hi => q_isKept hb (by omega) ho hi
  unfold f_M_isSymbol
  rw [h1, bs, q_where hb hF ho hs hy, xb_mk, h1, bs, q_bind hb hF ho hs hy, xb_mk, h1, bs, q_sections hb (by omega) ho.1, xb_mk]
  simp only [f_M_isSymbol_32, f_M_isSymbol_33, f_M_isSymbol_64, f_M_isSymbol_66, f_M_isSymbol_83, f_M_isSymbol_98, f_M_isSymbol_107, f_M_isSymbol_152, f_M_isSymbol_156, f_M_isSymbol_157, h1, bs, q_isName hb hF hw hn hk, xb_mk, q_value hb hF ho hs hy, q_symbolSize hb hF ho hs hy, q_isPower eV, lk, k0, k1, k2, lN_neg eZ, xz_0, xz_1, bI_0, nI_leI (show yW (cb B o n) k < 2 ^ 31 by omega) (show 0 < 2 ^ 31 by decide), nI_leI (show oS (cb B o n) < 2 ^ 31 by omega) (show yW (cb B o n) k < 2 ^ 31 by omega), nI_ltI (show 2 < 2 ^ 31 by decide) (show yB (cb B o n) k < 2 ^ 31 by omega), nI_eq (show yW (cb B o n) k < 2 ^ 31 by omega) (show 0 < 2 ^ 31 by decide), nI_eq (show yW (cb B o n) k < 2 ^ 31 by omega) (show 65521 < 2 ^ 31 by decide), nI_eq (show yW (cb B o n) k < 2 ^ 31 by omega) (show 65522 < 2 ^ 31 by decide), nI_eq (show yB (cb B o n) k < 2 ^ 31 by omega) (show 0 < 2 ^ 31 by decide), k10, if_true, if_false]
  have eF : (2 ^ 63 ≤ yZ (cb B o n) k ∨ lN 16384 < lN (yZ (cb B o n) k)) ↔ 16384 < yZ (cb B o n) k := by
    by_cases cz : 2 ^ 63 ≤ yZ (cb B o n) k
    · exact ⟨fun _ => Nat.lt_of_lt_of_le (by decide) cz, fun _ => Or.inl cz⟩
    · rw [pk_lLT (by decide) (by omega)]
      exact ⟨fun q => q.resolve_left cz, Or.inr⟩
  unfold yOK
  by_cases cW : yW (cb B o n) k < oS (cb B o n)
  · rw [qK cW]
    simp only [f_M_isSymbol_32, f_M_isSymbol_33, f_M_isSymbol_64, f_M_isSymbol_66, f_M_isSymbol_83, f_M_isSymbol_98, f_M_isSymbol_107, f_M_isSymbol_152, f_M_isSymbol_156, f_M_isSymbol_157, h1, bs, q_isName hb hF hw hn hk, xb_mk, q_value hb hF ho hs hy, q_symbolSize hb hF ho hs hy, q_isPower eV, lk, k0, k1, k2, lN_neg eZ, xz_0, xz_1, bI_0, nI_leI (show yW (cb B o n) k < 2 ^ 31 by omega) (show 0 < 2 ^ 31 by decide), nI_leI (show oS (cb B o n) < 2 ^ 31 by omega) (show yW (cb B o n) k < 2 ^ 31 by omega), nI_ltI (show 2 < 2 ^ 31 by decide) (show yB (cb B o n) k < 2 ^ 31 by omega), nI_eq (show yW (cb B o n) k < 2 ^ 31 by omega) (show 0 < 2 ^ 31 by decide), nI_eq (show yW (cb B o n) k < 2 ^ 31 by omega) (show 65521 < 2 ^ 31 by decide), nI_eq (show yW (cb B o n) k < 2 ^ 31 by omega) (show 65522 < 2 ^ 31 by decide), nI_eq (show yB (cb B o n) k < 2 ^ 31 by omega) (show 0 < 2 ^ 31 by decide), k10, if_true, if_false]
    generalize oK (cb B o n) (yW (cb B o n) k) = K
    generalize yG (cb B o n) k = G
    generalize isP (yV (cb B o n) k) = P
    generalize yB (cb B o n) k = b at *
    generalize yW (cb B o n) k = w at *
    generalize oS (cb B o n) = s at *
    generalize yZ (cb B o n) k = z at *
    have f1 : ¬ w = 65521 := by omega
    have f2 : ¬ w = 65522 := by omega
    have f3 : ¬ s ≤ w := by omega
    have f4 : (nI 0, h) = (bI false, h) := rfl
    simp only [f1, f2, f3, f4, if_false]
    by_cases c1 : 2 < b
    · simp [c1, show ¬ b ≤ 2 by omega]
    · by_cases c0 : w = 0
      · cases G <;> by_cases cb : b = 0 <;> simp [c1, c0, cb, show b ≤ 2 by omega, show 0 < s by omega]
      · have g1 : ¬ w ≤ 0 := by omega
        cases K <;> cases G <;> by_cases cb : b = 0 <;> simp [c1, c0, cb, g1, f1, f2, show b ≤ 2 by omega, cW, show 0 < w by omega]
  · generalize yG (cb B o n) k = G
    generalize isP (yV (cb B o n) k) = P
    generalize oK (cb B o n) (yW (cb B o n) k) = K
    generalize yB (cb B o n) k = b at *
    generalize hw : yW (cb B o n) k = w at *
    generalize oS (cb B o n) = s at *
    generalize yZ (cb B o n) k = z at *
    have f3 : s ≤ w := by omega
    have f4 : (nI 0, h) = (bI false, h) := rfl
    have g1 : ¬ w ≤ 0 := by omega
    have g2 : ¬ w = 0 := by omega
    simp only [f3, f4, g1, g2, if_true, if_false]
    by_cases c1 : 2 < b
    · simp [c1, show ¬ b ≤ 2 by omega]
    · by_cases c3 : w = 65521
      · cases G <;> by_cases cb : b = 0 <;> simp [c1, c3, cb, show b ≤ 2 by omega, show ¬ 65521 < s by omega]
      · by_cases c4 : w = 65522
        · by_cases cz : 16384 < z
          · have g3 := eF.mpr cz
            have g5 : ¬ 65522 < s := by omega
            have g6 : ¬ z ≤ 16384 := by omega
            have g4 : b ≤ 2 := by omega
            by_cases c5 : 2 ^ 63 ≤ z
            · cases G <;> cases P <;> by_cases cb : b = 0 <;> simp only [ne_eq, c1, c4, cb, c5, g4, g5, g6] <;> simp
            · have g7 := g3.resolve_left c5
              cases G <;> cases P <;> by_cases cb : b = 0 <;> simp only [ne_eq, c1, c4, cb, c5, g4, g5, g6, g7] <;> simp
          · have g5 : ¬ 65522 < s := by omega
            have g6 : z ≤ 16384 := by omega
            have g4 : b ≤ 2 := by omega
            have c5 : ¬ 2 ^ 63 ≤ z := fun q => cz (eF.mp (Or.inl q))
            have g7 : ¬ lN 16384 < lN z := fun q => cz (eF.mp (Or.inr q))
            cases G <;> cases P <;> by_cases cb : b = 0 <;> simp only [ne_eq, c1, c4, cb, c5, g4, g5, g6, g7] <;> simp
        · simp [c1, c3, c4, cW]
end CHK
end
section
/-! the reference's errors of sections and symbols -/
/-- the error of the symbols -/
def eSym (b : Nat → Nat) : Nat := if 1 < cnt (fun i => decide (oT b i = 2)) 1 (oS b - 1) then 5 else if oY b = 0 then 0 else if oZ b (oY b) % 24 = 0 ∧ oZ b (oY b) ≤ 1536 ∧ oX b < oS b ∧ oT b (oX b) = 3 then (if al (yOK b) 1 (oM b - 1) = true then 0 else 6) else 5
theorem cnt_0 {p : Nat → Bool} : ∀ {c i : Nat}, 1 ≤ i → (cnt p i c = 0 ↔ fnd p 0 i c = 0)
  | 0, i, _ => by simp [cnt, fnd]
  | c + 1, i, hi => by
    unfold cnt fnd
    by_cases h : p i = true
    · rw [if_pos h, if_pos h]; omega
    · rw [if_neg h, if_neg h, Nat.zero_add]
      exact cnt_0 (by omega)
theorem cnt_le {p : Nat → Bool} : ∀ {c i : Nat}, cnt p i c ≤ c
  | 0, _ => Nat.le_refl _
  | c + 1, i => by
    have := @cnt_le p c (i + 1)
    unfold cnt
    split <;> omega
section ERR
variable {F : Nat} {h : px_H} {m o n : Nat} {B : Nat → Int32}
theorem q_isHeader (hb : mb h m B) (hF : 8 < F) (ho : 64 ≤ n ∧ o + n ≤ 65536) : f_M_isHeader F m (nI o) h = some (bI (oH (cb B o n)), h) := by
  obtain ⟨fs, h1⟩ := mb_o hb
  have k0 : (0 : Int32) = nI 0 := rfl
  have k1 : (nI 1 = nI 0) ↔ False := by decide
  have L2 : ∀ x, le (cb B o n) x 2 < 2 ^ 64 := fun x => Nat.lt_of_lt_of_le (le_lt (cb_lt B o n) x 2) (by decide)
  have L4 : ∀ x, le (cb B o n) x 4 < 2 ^ 64 := fun x => Nat.lt_of_lt_of_le (le_lt (cb_lt B o n) x 4) (by decide)
  have L7 : ∀ x, le (cb B o n) x 7 < 2 ^ 64 := fun x => Nat.lt_of_lt_of_le (le_lt (cb_lt B o n) x 7) (by decide)
  have q0 : f_M_num F m (nI o) (nI 7) h = some (lN (le (cb B o n) 0 7), h) := q_numo (x := 0) hb hF (by decide) ho.2 (by omega)
  have q1 : f_M_num F m (nI (o + 16)) (nI 2) h = some (lN (le (cb B o n) 16 2), h) := q_numo hb hF (by decide) ho.2 (by omega)
  have q2 : f_M_num F m (nI (o + 18)) (nI 2) h = some (lN (le (cb B o n) 18 2), h) := q_numo hb hF (by decide) ho.2 (by omega)
  have q3 : f_M_num F m (nI (o + 20)) (nI 4) h = some (lN (le (cb B o n) 20 4), h) := q_numo hb hF (by decide) ho.2 (by omega)
  have q4 : f_M_num F m (nI (o + 52)) (nI 2) h = some (lN (le (cb B o n) 52 2), h) := q_numo hb hF (by decide) ho.2 (by omega)
  have q5 : f_M_num F m (nI (o + 58)) (nI 2) h = some (lN (le (cb B o n) 58 2), h) := q_numo hb hF (by decide) ho.2 (by omega)
  simp only [f_M_isHeader, f_M_isHeader_104, f_M_isHeader_105, f_M_isHeader_62, f_M_isHeader_63, h1, bs, xb_mk, nI_add, q0, q1, q2, q3, q4, q5, lk, lEQ (L7 0) (show 282584257676671 < 2 ^ 64 by decide), lEQ (L2 16) (show 1 < 2 ^ 64 by decide), lEQ (L2 18) (show 62 < 2 ^ 64 by decide), lEQ (L4 20) (show 1 < 2 ^ 64 by decide), lEQ (L2 52) (show 64 < 2 ^ 64 by decide), lEQ (L2 58) (show 64 < 2 ^ 64 by decide), k0, k1, if_true, if_false, xz_0, xz_1]
  unfold oH
  generalize le (cb B o n) 0 7 = x0
  generalize le (cb B o n) 16 2 = x1
  generalize le (cb B o n) 18 2 = x2
  generalize le (cb B o n) 20 4 = x3
  generalize le (cb B o n) 52 2 = x4
  generalize le (cb B o n) 58 2 = x5
  by_cases c0 : x0 = 282584257676671
  · by_cases c1 : x1 = 1
    · by_cases c2 : x2 = 62
      · by_cases c3 : x3 = 1
        · by_cases c4 : x4 = 64 <;> by_cases c5 : x5 = 64 <;> simp [c0, c1, c2, c3, c4, c5]
        · simp [c0, c1, c2, c3]
      · simp [c0, c1, c2]
    · simp [c0, c1]
  · simp [c0]
theorem q_sectionError {i : Nat} (hb : mb h m B) (hF : 8 < F) (ho : rk B o n) (hi : i < oS (cb B o n)) (hn : n ≤ 65536) : f_M_sectionError F m (nI o) (nI n) (nI i) h = some (nI (eSec (cb B o n) n i), h) := by
  obtain ⟨fs, h1⟩ := mb_o hb
  have e1 := oT_lt (cb_lt B o n) i
  have e2 := oP_lt (cb_lt B o n) i
  have e3 := oZ_lt (cb_lt B o n) i
  have e4 := oA_lt (cb_lt B o n) i
  have k0 : (0 : Int32) = nI 0 := rfl
  have k1 : (nI 1 = nI 0) ↔ False := by decide
  have a1 := lEQ (show oT (cb B o n) i < 2 ^ 64 by omega) (show 0 < 2 ^ 64 by decide)
  have a2 := lEQ (show oT (cb B o n) i < 2 ^ 64 by omega) (show 8 < 2 ^ 64 by decide)
  have a3 := lEQ e4 (show 0 < 2 ^ 64 by decide)
  have eF : (2 ^ 63 ≤ oZ (cb B o n) i ∨ ¬ lN (oZ (cb B o n) i) ≤ lN 16384) ↔ 16384 < oZ (cb B o n) i := by
    by_cases cz : 2 ^ 63 ≤ oZ (cb B o n) i
    · exact ⟨fun _ => Nat.lt_of_lt_of_le (by decide) cz, fun _ => Or.inl cz⟩
    · rw [pk_lLE (by omega) (by decide)]
      exact ⟨fun q => Nat.not_le.mp (q.resolve_left cz), fun q => Or.inr (Nat.not_le.mpr q)⟩
  simp only [f_M_sectionError, f_M_sectionError_116, f_M_sectionError_120, f_M_sectionError_121, f_M_sectionError_46, f_M_sectionError_81, f_M_sectionError_86, h1, bs, xb_mk, q_type hb hF ho hi, q_beginning hb hF ho hi, q_size hb hF ho hi, q_align hb hF ho hi, q_isKept hb hF ho hi, nI_l (show n < 2 ^ 31 by omega), q_lies e2 e3 (show n < 2 ^ 62 by omega), q_isPower e4, lk, k0, k1, a1, a2, a3, lN_neg e3, bI_0, if_true, if_false]
  unfold eSec
  generalize oK (cb B o n) i = K
  generalize isP (oA (cb B o n) i) = P
  generalize oT (cb B o n) i = t at *
  generalize oP (cb B o n) i = p at *
  generalize oZ (cb B o n) i = z at *
  generalize oA (cb B o n) i = a at *
  have R : ∀ (x : Option (Int32 × px_H)), (if K = false then some (nI 0, h) else if 2 ^ 63 ≤ z then some (nI 4, h) else if lN z ≤ lN 16384 then (if a = 0 then some (nI 0, h) else if P = false then some (nI 4, h) else some (nI 0, h)) else some (nI 4, h)) = some (nI (if K = true ∧ (16384 < z ∨ a ≠ 0 ∧ P = false) then 4 else 0), h) := by
    intro x
    cases K with
    | false => simp
    | true =>
      by_cases cz : 16384 < z
      · by_cases c5 : 2 ^ 63 ≤ z
        · simp only [c5, cz]; simp
        · have g := (eF.mpr cz).resolve_left c5
          simp only [c5, cz, g]; simp
      · have c5 : ¬ 2 ^ 63 ≤ z := fun q => cz (eF.mp (Or.inl q))
        have g : lN z ≤ lN 16384 := Decidable.byContradiction (fun q => cz (eF.mp (Or.inr q)))
        simp only [c5, cz, g]
        cases P <;> by_cases ca : a = 0 <;> simp [ca]
  by_cases c1 : t = 0
  · simp only [c1, if_true, R none]; simp
  · by_cases c2 : t = 8
    · simp only [c2]; simp only [R none]; simp
    · simp only [c1, c2, if_false, R none, decide_eq_false_iff_not]
      by_cases c3 : p + z ≤ n
      · simp [c3]
      · simp [c1, c2, c3]
theorem q_symbolsError_11 {y : Nat} (hb : mb h m B) (hF : 8 < F) (ho : rk B o n) : ∀ (c i a f : Nat), i + c = oS (cb B o n) → c < f → f_M_symbolsError_11 F f m (nI o) (nI y) (nI a) (nI i) h = f_M_symbolsError_49 F m (nI o) (nI y) (nI (a + cnt (fun i => decide (oT (cb B o n) i = 2)) i c)) h := by
  obtain ⟨fs, h1⟩ := mb_o hb
  have hs := ho.2.2
  intro c
  induction c with
  | zero =>
    intro i a f hi hf
    obtain ⟨f, rfl⟩ : ∃ g, f = g + 1 := ⟨f - 1, by omega⟩
    unfold f_M_symbolsError_11
    rw [h1, bs, q_sections hb hF ho.1, xb_mk, if_pos (nI_le (by omega) (by omega))]
    rfl
  | succ c ih =>
    intro i a f hi hf
    obtain ⟨f, rfl⟩ : ∃ g, f = g + 1 := ⟨f - 1, by omega⟩
    have e1 := oT_lt (cb_lt B o n) i
    have a1 := lEQ (show oT (cb B o n) i < 2 ^ 64 by omega) (show 2 < 2 ^ 64 by decide)
    unfold f_M_symbolsError_11
    rw [h1, bs, q_sections hb hF ho.1, xb_mk, if_neg (nI_ge (by omega) (by omega)), h1, bs, q_type hb hF ho (by omega), xb_mk]
    simp only [lk, a1, f_M_symbolsError_41, nI_add]
    unfold cnt
    by_cases c1 : oT (cb B o n) i = 2
    · rw [if_pos c1, if_pos (decide_eq_true c1), ih (i + 1) (a + 1) f (by omega) (by omega), Nat.add_assoc]
    · rw [if_neg c1, if_neg (by simp [c1]), ih (i + 1) (a + 0) f (by omega) (by omega), Nat.add_assoc]
theorem q_symbolsError_165 (hb : mb h m B) (hF : 24 < F) (hw : w2 (cb B o n) n) (hn : o + n ≤ 65536) : ∀ (c i f : Nat), c = oM (cb B o n) - i → c < f → i < 2 ^ 30 → f_M_symbolsError_165 F f m (nI o) (nI i) h = some (nI (if al (yOK (cb B o n)) i c = true then 0 else 6), h) := by
  obtain ⟨fs, h1⟩ := mb_o hb
  have ho := w1_rk hw.1 hn
  have hs := hw.1.2.1.1
  have hM := w2_M hw
  have k0 : (0 : Int32) = nI 0 := rfl
  intro c
  induction c with
  | zero =>
    intro i f hi hf hi2
    obtain ⟨f, rfl⟩ : ∃ g, f = g + 1 := ⟨f - 1, by omega⟩
    unfold f_M_symbolsError_165
    rw [h1, bs, q_symbolMany hb hF ho hs (w2_z hw), xb_mk, if_pos (nI_le (by omega) (by omega))]
    rfl
  | succ c ih =>
    intro i f hi hf hi2
    obtain ⟨f, rfl⟩ : ∃ g, f = g + 1 := ⟨f - 1, by omega⟩
    unfold f_M_symbolsError_165
    rw [h1, bs, q_symbolMany hb hF ho hs (w2_z hw), xb_mk, if_neg (nI_ge (by omega) (by omega)), h1, bs, q_isSymbol hb hF hw hn (by omega), xb_mk]
    simp only [k0, bI_0, nI_add, ih (i + 1) f (by omega) (by omega) (by omega), al_s]
    by_cases hq : yOK (cb B o n) i = true <;> simp [hq, f_M_symbolsError_185]
theorem q_symbolsError (hb : mb h m B) (hF : 65 < F) (hw : w1 (cb B o n) n) (hn : o + n ≤ 65536) : f_M_symbolsError F m (nI o) h = some (nI (eSym (cb B o n)), h) := by
  obtain ⟨fs, h1⟩ := mb_o hb
  have ho := w1_rk hw hn
  have hs := hw.2.1.1
  have hs2 := hw.2.1.2
  have hy := oY_lt hs
  have k0 : (0 : Int32) = nI 0 := rfl
  have k1 : (nI 1 = nI 0) ↔ False := by decide
  have hc := @cnt_le (fun i => decide (oT (cb B o n) i = 2)) (oS (cb B o n) - 1) 1
  have hc0 := @cnt_0 (fun i => decide (oT (cb B o n) i = 2)) (oS (cb B o n) - 1) 1 (by omega)
  rw [show fnd (fun i => decide (oT (cb B o n) i = 2)) 0 1 (oS (cb B o n) - 1) = oY (cb B o n) from rfl] at hc0
  have hF8 : 8 < F := by omega
  unfold f_M_symbolsError
  rw [h1, bs, q_symbols hb (by omega) ho hs, xb_mk, q_symbolsError_11 hb (by omega) ho (oS (cb B o n) - 1) 1 0 F (by omega) (by omega), Nat.zero_add]
  unfold eSym
  generalize cnt (fun i => decide (oT (cb B o n) i = 2)) 1 (oS (cb B o n) - 1) = q at *
  unfold f_M_symbolsError_49
  simp only [k0, nI_leI (show q < 2 ^ 31 by omega) (show 1 < 2 ^ 31 by decide), nI_eq (show q < 2 ^ 31 by omega) (show 0 < 2 ^ 31 by decide)]
  by_cases c1 : 1 < q
  · rw [if_neg (by omega), if_pos c1]
  · rw [if_pos (by omega), if_neg c1]
    by_cases c2 : q = 0
    · rw [if_pos c2, if_pos (hc0.mp c2)]
    · have c3 : oY (cb B o n) ≠ 0 := fun e => c2 (hc0.mpr e)
      have ht := oY_T c3
      have hz := hw.2.2.2.1 _ hy (by rw [ht]; decide) (by rw [ht]; decide)
      have hL := oL_lt (cb_lt B o n) (oY (cb B o n))
      have hz2 : oZ (cb B o n) (oY (cb B o n)) ≤ 65536 := by
        generalize oZ (cb B o n) (oY (cb B o n)) = z at *
        generalize oP (cb B o n) (oY (cb B o n)) = p at *
        omega
      rw [if_neg c2, if_neg c3, h1, bs, q_size hb (by omega) ho hy, xb_mk]
      simp only [lk, h1, bs, q_size hb hF8 ho hy, xb_mk, f_M_symbolsError_105, f_M_symbolsError_106, q_linkOf hb hF8 ho hy, q_sections hb hF8 ho.1, nI_l (show oS (cb B o n) < 2 ^ 31 by omega), lN_i, f_M_symbolsError_147, f_M_symbolsError_148, f_M_symbolsError_160, pk_lLE (show oS (cb B o n) < 2 ^ 63 by omega) (show oL (cb B o n) (oY (cb B o n)) < 2 ^ 63 by omega), k0, k1, if_true, if_false]
      simp only [pk_lRem (show oZ (cb B o n) (oY (cb B o n)) < 2 ^ 63 by omega) (show 0 < 24 by decide) (show 24 < 2 ^ 63 by decide), lEQ (show oZ (cb B o n) (oY (cb B o n)) % 24 < 2 ^ 64 from Nat.lt_of_lt_of_le (Nat.mod_lt _ (by decide)) (by decide)) (show 0 < 2 ^ 64 by decide), lN_neg (show oZ (cb B o n) (oY (cb B o n)) < 2 ^ 64 by omega), pk_lLT (show 1536 < 2 ^ 63 by decide) (show oZ (cb B o n) (oY (cb B o n)) < 2 ^ 63 by omega)]
      rw [show oX (cb B o n) = oL (cb B o n) (oY (cb B o n)) from rfl]
      have g : ¬ 2 ^ 63 ≤ oZ (cb B o n) (oY (cb B o n)) := by omega
      by_cases d1 : oL (cb B o n) (oY (cb B o n)) < oS (cb B o n)
      · have d2 : ¬ oS (cb B o n) ≤ oL (cb B o n) (oY (cb B o n)) := by omega
        have e1 := oT_lt (cb_lt B o n) (oL (cb B o n) (oY (cb B o n)))
        have a1 := lEQ (show oT (cb B o n) (oL (cb B o n) (oY (cb B o n))) < 2 ^ 64 by omega) (show 3 < 2 ^ 64 by decide)
        simp only [g, d1, d2, if_false, q_type hb hF8 ho d1, xb_mk, lk, a1, k0, k1, true_and]
        by_cases d3 : oT (cb B o n) (oL (cb B o n) (oY (cb B o n))) = 3
        · by_cases d4 : oZ (cb B o n) (oY (cb B o n)) % 24 = 0
          · by_cases d5 : oZ (cb B o n) (oY (cb B o n)) ≤ 1536
            · have hw2 : w2 (cb B o n) n := ⟨hw, fun _ => ⟨d4, d5, d1, d3⟩⟩
              have hM := w2_M hw2
              have d6 : ¬ 1536 < oZ (cb B o n) (oY (cb B o n)) := by omega
              rw [if_pos d4, if_neg d6, if_pos d3, if_pos ⟨d4, d5, d3⟩]
              exact q_symbolsError_165 hb (by omega) hw2 hn (oM (cb B o n) - 1) 1 F rfl (by omega) (by decide)
            · have d6 : 1536 < oZ (cb B o n) (oY (cb B o n)) := by omega
              simp only [d4, d5, d6, if_true, if_false, ite_self, false_and, and_false]
          · simp only [d4, if_false, ite_self, false_and, and_false]
        · simp only [d3, if_false, ite_self, and_false]
      · have d2 : oS (cb B o n) ≤ oL (cb B o n) (oY (cb B o n)) := by omega
        simp only [g, d1, d2, if_true, if_false, ite_self, false_and, and_false]
end ERR
end
section
/-! the reference's errors of sites -/
/-- a how's bytes; 16 for one that is not told -/
def wd (x : Nat) : Nat := if x = 1 ∨ x = 18 then 8 else if x = 2 ∨ x = 4 ∨ x = 9 ∨ x = 10 ∨ x = 11 ∨ x = 22 ∨ x = 23 ∨ x = 41 ∨ x = 42 then 4 else if x = 0 then 0 else 16
theorem wd_cases (x : Nat) : wd x = 8 ∨ wd x = 4 ∨ wd x = 0 ∨ wd x = 16 := by
  unfold wd
  split
  · exact Or.inl rfl
  · split
    · exact Or.inr (Or.inl rfl)
    · split
      · exact Or.inr (Or.inr (Or.inl rfl))
      · exact Or.inr (Or.inr (Or.inr rfl))
def wI (x : Nat) : Int32 := if wd x = 16 then Int32.ofInt (-1) else nI (wd x)
/-- sites of section i count -/
def isS (b : Nat → Nat) (i : Nat) : Bool := decide (oT b i = 4 ∧ oI b i < oS b ∧ oK b (oI b i) = true)
/-- how many sites -/
def sN (b : Nat → Nat) (i : Nat) : Nat := oZ b i / 24
/-- where site j of section i lies -/
def sP (b : Nat → Nat) (i j : Nat) : Nat := oP b i + 24 * j
def sL (b : Nat → Nat) (i j : Nat) : Nat := le b (sP b i j) 8
def sH (b : Nat → Nat) (i j : Nat) : Nat := le b (sP b i j + 8) 4
def sY (b : Nat → Nat) (i j : Nat) : Nat := le b (sP b i j + 12) 4
def sD (b : Nat → Nat) (i j : Nat) : Nat := le b (sP b i j + 16) 8
/-- no byte of site (a, c) is one of site (i, j) -/
def sFree (b : Nat → Nat) (i j a c : Nat) : Bool := decide (wd (sH b a c) = 0 ∨ sL b a c + wd (sH b a c) ≤ sL b i j ∨ sL b i j + wd (sH b i j) ≤ sL b a c)
/-- no byte of site (i, j) is one of a site of section a, of those ahead of it -/
def sFr (b : Nat → Nat) (i j a : Nat) : Bool := !(isS b a && decide (oI b a = oI b i)) || al (sFree b i j a) 0 (if a < i then sN b a else j)
/-- the site is as told, but for others' bytes -/
def sOK0 (b : Nat → Nat) (i j : Nat) : Bool := decide (wd (sH b i j) ≠ 16 ∧ sY b i j < oM b ∧ (wd (sH b i j) = 0 ∨ oT b (oI b i) ≠ 8 ∧ sL b i j + wd (sH b i j) ≤ oZ b (oI b i)))
def sOK (b : Nat → Nat) (i j : Nat) : Bool := sOK0 b i j && (decide (wd (sH b i j) = 0) || al (sFr b i j) 1 i)
def sSec (b : Nat → Nat) (i : Nat) : Bool := decide (oZ b i % 24 = 0 ∧ oY b ≠ 0 ∧ oL b i = oY b) && al (sOK b i) 0 (sN b i)
def eSit (b : Nat → Nat) : Nat := if al (fun i => !isS b i || sSec b i) 1 (oS b - 1) = true then 0 else 7
theorem bI_1 (c : Bool) : (bI c = nI 1) ↔ c = true := by cases c <;> decide
section SIT
variable {F : Nat} {h : px_H} {m o n : Nat} {B : Nat → Int32}
theorem q_isSlotted {x : Nat} (hx : x < 4294967296) : f_M_isSlotted F (lN x) h = some (bI (decide (x = 9 ∨ x = 22 ∨ x = 41 ∨ x = 42)), h) := by
  simp only [f_M_isSlotted, f_M_isSlotted_32, f_M_isSlotted_37, lk, lEQ (show x < 2 ^ 64 by omega) (show 9 < 2 ^ 64 by decide), lEQ (show x < 2 ^ 64 by omega) (show 22 < 2 ^ 64 by decide), lEQ (show x < 2 ^ 64 by omega) (show 41 < 2 ^ 64 by decide), lEQ (show x < 2 ^ 64 by omega) (show 42 < 2 ^ 64 by decide), xz_0, xz_1]
  by_cases c1 : x = 9
  · simp [c1]
  · by_cases c2 : x = 22
    · simp [c2]
    · by_cases c3 : x = 41
      · simp [c3]
      · by_cases c4 : x = 42 <;> simp [c1, c2, c3, c4]
theorem q_width {x : Nat} (hx : x < 4294967296) : f_M_width F (lN x) h = some (wI x, h) := by
  have k0 : (0 : Int32) = nI 0 := rfl
  have E : ∀ y, y < 4294967296 → (lN x = lN y ↔ x = y) := fun y hy => lEQ (by omega) (by omega)
  simp only [f_M_width, f_M_width_14, f_M_width_66, f_M_width_81, q_isSlotted hx, xb_mk, lk, E 1 (by decide), E 18 (by decide), E 2 (by decide), E 4 (by decide), E 10 (by decide), E 11 (by decide), E 23 (by decide), E 0 (by decide), k0, bI_0, decide_eq_false_iff_not]
  unfold wI wd
  by_cases c1 : x = 1
  · simp [c1]
  · by_cases c2 : x = 18
    · simp [c2]
    · by_cases c3 : x = 2 ∨ x = 4 ∨ x = 10 ∨ x = 11 ∨ x = 23
      · rcases c3 with c | c | c | c | c <;> simp [c]
      · by_cases c4 : x = 9 ∨ x = 22 ∨ x = 41 ∨ x = 42
        · rcases c4 with c | c | c | c <;> simp [c]
        · have d7 : ¬ x = 9 := by omega
          have d8 : ¬ x = 22 := by omega
          have d9 : ¬ x = 41 := by omega
          have d1 : ¬ x = 42 := by omega
          have d2 : ¬ x = 2 := by omega
          have d3 : ¬ x = 4 := by omega
          have d4 : ¬ x = 10 := by omega
          have d5 : ¬ x = 11 := by omega
          have d6 : ¬ x = 23 := by omega
          simp only [c1, c2, d1, d2, d3, d4, d5, d6, d7, d8, d9, if_false, or_self, not_false_eq_true, if_true]
          by_cases c5 : x = 0 <;> simp [c5]
theorem q_isSites {i : Nat} (hb : mb h m B) (hF : 8 < F) (ho : rk B o n) (hi : i < oS (cb B o n)) : f_M_isSites F m (nI o) (nI i) h = some (bI (isS (cb B o n) i), h) := by
  obtain ⟨fs, h1⟩ := mb_o hb
  have hs := ho.2.2
  have e1 := oT_lt (cb_lt B o n) i
  have e2 := oI_lt (cb_lt B o n) i
  have k0 : (0 : Int32) = nI 0 := rfl
  simp only [f_M_isSites, f_M_isSites_48, f_M_isSites_49, h1, bs, xb_mk, q_type hb hF ho hi, q_info hb hF ho hi, q_sections hb hF ho.1, nI_l (show oS (cb B o n) < 2 ^ 31 by omega), lN_i, lk, k0, lEQ (show oT (cb B o n) i < 2 ^ 64 by omega) (show 4 < 2 ^ 64 by decide), pk_lLE (show oS (cb B o n) < 2 ^ 63 by omega) (show oI (cb B o n) i < 2 ^ 63 by omega), xz_0, xz_1]
  unfold isS
  by_cases c1 : oT (cb B o n) i = 4
  · by_cases c2 : oI (cb B o n) i < oS (cb B o n)
    · rw [if_pos c1, if_neg (by omega), q_isKept hb hF ho c2, xb_mk]
      simp only [bI_0]
      by_cases c3 : oK (cb B o n) (oI (cb B o n) i) = true <;> simp [c1, c2, c3]
    · rw [if_pos c1, if_pos (by omega)]; simp [c2]
  · rw [if_neg c1]; simp [c1]
theorem q_siteMany {i : Nat} (hb : mb h m B) (hF : 8 < F) (ho : rk B o n) (hi : i < oS (cb B o n)) (hz : oZ (cb B o n) i < 2 ^ 63) : f_M_siteMany F m (nI o) (nI i) h = some (nI (sN (cb B o n) i), h) := by
  obtain ⟨fs, h1⟩ := mb_o hb
  unfold f_M_siteMany
  rw [h1, bs, q_size hb hF ho hi, xb_mk, lk, pk_lDiv hz (by decide) (by decide), lN_i]
  rfl
theorem q_site {i j : Nat} (hb : mb h m B) (hF : 8 < F) (ho : rk B o n) (hi : i < oS (cb B o n)) : f_M_site F m (nI o) (nI i) (nI j) h = some (nI (o + sP (cb B o n) i j), h) := by
  obtain ⟨fs, h1⟩ := mb_o hb
  unfold f_M_site
  rw [h1, bs, q_beginning hb hF ho hi, xb_mk, lN_i, pk_mul, nI_add, nI_add, Nat.add_assoc]
  rfl
theorem ar_s {n P Z j : Nat} (h1 : P + Z ≤ n) (hj : j < Z / 24) : P + 24 * j + 24 ≤ n := by omega
/-- a section of sites has its bytes in the object -/
theorem w1_s {b : Nat → Nat} {i : Nat} (hw : w1 b n) (hi : i < oS b) (ht : oT b i = 4) : oP b i + oZ b i ≤ n := hw.2.2.2.1 _ hi (by rw [ht]; decide) (by rw [ht]; decide)
theorem w1_sp {b : Nat → Nat} {i j : Nat} (hw : w1 b n) (hi : i < oS b) (ht : oT b i = 4) (hj : j < sN b i) : sP b i j + 24 ≤ n := ar_s (w1_s hw hi ht) hj
theorem isS_T {b : Nat → Nat} {i : Nat} (h : isS b i = true) : oT b i = 4 ∧ oI b i < oS b ∧ oK b (oI b i) = true := of_decide_eq_true h
theorem ar_8 {y n : Nat} (h : y + 24 ≤ n) : y + 8 ≤ n := by omega
theorem ar_12 {y n : Nat} (h : y + 24 ≤ n) : y + 8 + 4 ≤ n := by omega
theorem ar_16 {y n : Nat} (h : y + 24 ≤ n) : y + 12 + 4 ≤ n := by omega
theorem ar_24 {y n : Nat} (h : y + 24 ≤ n) : y + 16 + 8 ≤ n := by omega
theorem q_sL {p : Nat} (hb : mb h m B) (hF : 8 < F) (hn : o + n ≤ 65536) (hp : p + 24 ≤ n) : f_M_num F m (nI (o + p)) (nI 8) h = some (lN (le (cb B o n) p 8), h) := q_numo hb hF (by decide) hn (ar_8 hp)
theorem q_sH {p : Nat} (hb : mb h m B) (hF : 8 < F) (hn : o + n ≤ 65536) (hp : p + 24 ≤ n) : f_M_num F m (nI (o + p + 8)) (nI 4) h = some (lN (le (cb B o n) (p + 8) 4), h) := by rw [Nat.add_assoc]; exact q_numo hb hF (by decide) hn (ar_12 hp)
theorem q_sY {p : Nat} (hb : mb h m B) (hF : 8 < F) (hn : o + n ≤ 65536) (hp : p + 24 ≤ n) : f_M_num F m (nI (o + p + 12)) (nI 4) h = some (lN (le (cb B o n) (p + 12) 4), h) := by rw [Nat.add_assoc]; exact q_numo hb hF (by decide) hn (ar_16 hp)
theorem q_sD {p : Nat} (hb : mb h m B) (hF : 8 < F) (hn : o + n ≤ 65536) (hp : p + 24 ≤ n) : f_M_num F m (nI (o + p + 16)) (nI 8) h = some (lN (le (cb B o n) (p + 16) 8), h) := by rw [Nat.add_assoc]; exact q_numo hb hF (by decide) hn (ar_24 hp)
/-- the site's bytes: a hypothesis of those looked at before -/
def sB4 (b : Nat → Nat) (i j a : Nat) : Prop := isS b a = true → oI b a = oI b i → ∀ c, c < (if a < i then sN b a else j) → sOK0 b a c = true
theorem sH_lt {b : Nat → Nat} (hb : ∀ k, b k < 256) (i j : Nat) : sH b i j < 4294967296 := le_lt hb _ 4
theorem sY_lt {b : Nat → Nat} (hb : ∀ k, b k < 256) (i j : Nat) : sY b i j < 4294967296 := le_lt hb _ 4
theorem sL_lt {b : Nat → Nat} (hb : ∀ k, b k < 256) (i j : Nat) : sL b i j < 2 ^ 64 := le_lt hb _ 8
theorem wI_0 (x : Nat) : (wI x = nI 0) ↔ wd x = 0 := by
  unfold wI
  rcases wd_cases x with c | c | c | c <;> rw [c] <;> decide
theorem wI_l {x : Nat} (h : wd x ≠ 16) : (wI x).toInt64 = lN (wd x) := by
  unfold wI
  rw [if_neg h]
  rcases wd_cases x with c | c | c | c <;> rw [c] <;> rfl
theorem wI_n (x : Nat) : (wI x < 0) ↔ wd x = 16 := by
  unfold wI
  rcases wd_cases x with c | c | c | c <;> rw [c] <;> decide
theorem wI_n0 (x : Nat) : (wI x < nI 0) ↔ wd x = 16 := wI_n x
theorem wd_le {x : Nat} (h : wd x ≠ 16) : wd x ≤ 8 := by
  rcases wd_cases x with c | c | c | c <;> omega
theorem sOK0_le {b : Nat → Nat} {i j : Nat} (h : sOK0 b i j = true) (hz : oZ b (oI b i) ≤ 16384) : wd (sH b i j) ≠ 16 ∧ (wd (sH b i j) = 0 ∨ sL b i j + wd (sH b i j) ≤ 16384) := by
  have h1 := of_decide_eq_true h
  refine ⟨h1.1, ?_⟩
  rcases h1.2.2 with c | c
  · exact Or.inl c
  · exact Or.inr (Nat.le_trans c.2 hz)
theorem fr_pick {α : Type} (K : Bool → α) {fr : Bool} {x u y w : Nat} (hx : u = 0 ∨ x + u < 2 ^ 63) (hy : y + w < 2 ^ 63) : (if fr = false then K false else if u = 0 then K true else if lN (x + u) ≤ lN y then K true else if lN x < lN (y + w) then K false else K true) = K (fr && decide (u = 0 ∨ x + u ≤ y ∨ y + w ≤ x)) := by
  cases fr with
  | false => rfl
  | true =>
    rw [if_neg (by decide), Bool.true_and]
    by_cases c1 : u = 0
    · rw [if_pos c1, decide_eq_true (Or.inl c1)]
    · have hx := hx.resolve_left c1
      rw [if_neg c1]
      simp only [pk_lLE hx (show y < 2 ^ 63 by omega), pk_lLT (show x < 2 ^ 63 by omega) hy]
      by_cases c2 : x + u ≤ y
      · rw [if_pos c2, decide_eq_true (Or.inr (Or.inl c2))]
      · rw [if_neg c2]
        by_cases c3 : x < y + w
        · rw [if_pos c3, decide_eq_false (by omega)]
        · rw [if_neg c3, decide_eq_true (by omega)]
section SIT2
variable {k : Nat → Int32 → Int32 → Int32 → Int32 → Int32 → Int32 → Int32 → Int32 → px_H → Option (Int32 × px_H)}
theorem q_isSite_149 {i j a w p t : Nat} (hb : mb h m B) (hF : 8 < F) (hw : w1 (cb B o n) n) (hn : o + n ≤ 65536) (hi : i < oS (cb B o n)) (ha : a ≤ i) (h1a : 1 ≤ a) (haS : isS (cb B o n) a = true) (hT : oI (cb B o n) a = oI (cb B o n) i) (hw0 : wd (sH (cb B o n) i j) = w) (hw1 : w ≤ 8) (hp : sP (cb B o n) i j = p) (hpp : p + 24 ≤ n) (hL : sL (cb B o n) i j ≤ 16384) (hB : sB4 (cb B o n) i j a) (hj : j ≤ sN (cb B o n) i) : ∀ (c d f : Nat) (fr : Bool), d + c = (if a < i then sN (cb B o n) a else j) → c < f → f_M_isSite_149 F k f m (nI o) (nI i) (nI j) (nI (o + p)) (nI w) (nI t) (bI fr) (nI a) (nI d) h = k m (nI o) (nI i) (nI j) (nI (o + p)) (nI w) (nI t) (bI (fr && al (sFree (cb B o n) i j a) d c)) (nI (a + 1)) h := by
  obtain ⟨fs, h1⟩ := mb_o hb
  have ho := w1_rk hw hn
  have hs := hw.2.1.2
  have k0 : (0 : Int32) = nI 0 := rfl
  have haS' := isS_T haS
  have haI : a < oS (cb B o n) := Nat.lt_of_le_of_lt ha hi
  have hz := hw.2.2.2.2 _ haS'.2.1 haS'.2.2
  have hZa := w1_s hw haI haS'.1
  have hZ63 : oZ (cb B o n) a < 2 ^ 63 := by
    generalize oZ (cb B o n) a = z at *
    generalize oP (cb B o n) a = y at *
    omega
  have hsn : sN (cb B o n) a ≤ 65536 := by
    unfold sN
    generalize oZ (cb B o n) a = z at *
    generalize oP (cb B o n) a = y at *
    omega
  have hja : (if a < i then sN (cb B o n) a else j) ≤ sN (cb B o n) a := by
    by_cases c : a < i
    · rw [if_pos c]; exact Nat.le_refl _
    · rw [if_neg c, show a = i by omega]; exact hj
  intro c
  induction c with
  | zero =>
    intro d f fr hd hf
    obtain ⟨f, rfl⟩ : ∃ g, f = g + 1 := ⟨f - 1, by omega⟩
    unfold f_M_isSite_149
    have e : ∀ x, x = d → x ≤ 65536 → f_M_isSite_168 F k (f_M_isSite_149 F k f) m (nI o) (nI i) (nI j) (nI (o + p)) (nI w) (nI t) (bI fr) (nI a) (nI d) (nI d) (nI x) h = k m (nI o) (nI i) (nI j) (nI (o + p)) (nI w) (nI t) (bI (fr && al (sFree (cb B o n) i j a) d 0)) (nI (a + 1)) h := by
      intro x hx hx2
      unfold f_M_isSite_168 f_M_isSite_268
      rw [if_pos (nI_le (by omega) (by omega)), nI_add]
      simp [al]
    by_cases c1 : a < i
    · rw [if_neg (nI_ge c1 (by omega)), h1, bs, q_siteMany hb hF ho haI hZ63, xb_mk]
      rw [if_pos c1] at hd
      exact e _ hd.symm hsn
    · rw [if_pos (nI_le (by omega) (by omega))]
      rw [if_neg c1] at hd hja
      exact e _ hd.symm (Nat.le_trans hja hsn)
  | succ c ih =>
    intro d f fr hd hf
    obtain ⟨f, rfl⟩ : ∃ g, f = g + 1 := ⟨f - 1, by omega⟩
    unfold f_M_isSite_149
    have hds : d < sN (cb B o n) a := by omega
    have hq := w1_sp hw haI haS'.1 hds
    have h0 := hB haS hT d (by omega)
    obtain ⟨g1, g2⟩ := sOK0_le h0 hz
    have g3 := wd_le g1
    have g4 := sL_lt (cb_lt B o n) a d
    have e : ∀ x, d < x → x ≤ 65536 → f_M_isSite_168 F k (f_M_isSite_149 F k f) m (nI o) (nI i) (nI j) (nI (o + p)) (nI w) (nI t) (bI fr) (nI a) (nI d) (nI d) (nI x) h = k m (nI o) (nI i) (nI j) (nI (o + p)) (nI w) (nI t) (bI (fr && al (sFree (cb B o n) i j a) d (c + 1))) (nI (a + 1)) h := by
      intro x hx hx2
      unfold f_M_isSite_168
      rw [if_neg (nI_ge hx (by omega)), h1, bs, q_site hb hF ho haI, xb_mk, h1, bs, nI_add, q_sH hb hF hn hq, xb_mk, show le (cb B o n) (sP (cb B o n) a d + 8) 4 = sH (cb B o n) a d from rfl, q_width (sH_lt (cb_lt B o n) a d), xb_mk]
      simp only [f_M_isSite_259, f_M_isSite_255, f_M_isSite_260, nI_add, h1, bs, q_sL hb hF hn hq, q_sL hb hF hn hpp, xb_mk, k0, bI_0, wI_0]
      rw [show nI 0 = bI false from rfl, show nI 1 = bI true from rfl]
      rw [ih (d + 1) f false (by omega) (by omega), ih (d + 1) f true (by omega) (by omega), al_s]
      rw [show le (cb B o n) (sP (cb B o n) a d) 8 = sL (cb B o n) a d from rfl, show le (cb B o n) p 8 = sL (cb B o n) i j by rw [← hp]; rfl, wI_l g1, nI_l (show w < 2 ^ 31 by omega), lN_add, lN_add]
      rw [← Bool.and_assoc, show sFree (cb B o n) i j a d = decide (wd (sH (cb B o n) a d) = 0 ∨ sL (cb B o n) a d + wd (sH (cb B o n) a d) ≤ sL (cb B o n) i j ∨ sL (cb B o n) i j + w ≤ sL (cb B o n) a d) by unfold sFree; rw [hw0]]
      exact fr_pick (fun q => k m (nI o) (nI i) (nI j) (nI (o + p)) (nI w) (nI t) (bI (q && al (sFree (cb B o n) i j a) (d + 1) c)) (nI (a + 1)) h) (g2.imp_right (fun g => Nat.lt_of_le_of_lt g (by decide))) (Nat.lt_of_le_of_lt (Nat.add_le_add hL hw1) (by decide))
    by_cases c1 : a < i
    · rw [if_neg (nI_ge c1 (by omega)), h1, bs, q_siteMany hb hF ho haI hZ63, xb_mk]
      exact e _ hds hsn
    · rw [if_pos (nI_le (by omega) (by omega))]
      rw [if_neg c1] at hd
      rw [if_neg c1] at hja
      exact e _ (by omega) (Nat.le_trans hja hsn)
end SIT2
end SIT
end
section
/-! the reference's errors of sites: the loops -/
section SIT3
variable {F : Nat} {h : px_H} {m o n : Nat} {B : Nat → Int32}
theorem q_isSite_113 {i j w p t : Nat} (hb : mb h m B) (hF : 65536 < F) (hw : w1 (cb B o n) n) (hn : o + n ≤ 65536) (hi : i < oS (cb B o n)) (ht : oI (cb B o n) i = t) (ht2 : t < 2 ^ 31) (hw0 : wd (sH (cb B o n) i j) = w) (hw1 : w ≤ 8) (hp : sP (cb B o n) i j = p) (hpp : p + 24 ≤ n) (hL : sL (cb B o n) i j ≤ 16384) (hj : j ≤ sN (cb B o n) i) (hB : ∀ a, 1 ≤ a → a ≤ i → sB4 (cb B o n) i j a) : ∀ (c a f : Nat) (fr : Bool), a + c = i + 1 → 1 ≤ a → c < f → f_M_isSite_113 F f m (nI o) (nI i) (nI j) (nI (o + p)) (nI w) (nI t) (bI fr) (nI a) h = some (bI (fr && al (sFr (cb B o n) i j) a c), h) := by
  obtain ⟨fs, h1⟩ := mb_o hb
  have ho := w1_rk hw hn
  have hs := hw.2.1.2
  have hF8 : 8 < F := by omega
  have k0 : (0 : Int32) = nI 0 := rfl
  intro c
  induction c with
  | zero =>
    intro a f fr ha h1a hf
    obtain ⟨f, rfl⟩ : ∃ g, f = g + 1 := ⟨f - 1, by omega⟩
    unfold f_M_isSite_113
    rw [if_pos (nI_lt (by omega) (by omega)), f_M_isSite_274, xz_b, show al (sFr (cb B o n) i j) a 0 = true from rfl, Bool.and_true]
  | succ c ih =>
    intro a f fr ha h1a hf
    obtain ⟨f, rfl⟩ : ∃ g, f = g + 1 := ⟨f - 1, by omega⟩
    have haS : a < oS (cb B o n) := by omega
    have e2 := oI_lt (cb_lt B o n) a
    unfold f_M_isSite_113
    rw [if_neg (nI_nlt (by omega) (by omega)), h1, bs, q_isSites hb hF8 ho haS, xb_mk, h1, bs, q_info hb hF8 ho haS, xb_mk]
    simp only [k0, bI_0, nI_l ht2, lEQ (show oI (cb B o n) a < 2 ^ 64 by omega) (show t < 2 ^ 64 by omega), f_M_isSite_268, nI_add]
    rw [ih (a + 1) f fr (by omega) (by omega) (by omega), al_s, ← Bool.and_assoc]
    by_cases c1 : isS (cb B o n) a = true
    · rw [if_neg (by rw [c1]; decide)]
      by_cases c2 : oI (cb B o n) a = t
      · have c3 : (if a < i then sN (cb B o n) a else j) ≤ 65536 := by
          have hZa := w1_s hw haS (isS_T c1).1
          have h9 : sN (cb B o n) a ≤ 65536 := by
            unfold sN
            generalize oZ (cb B o n) a = z at *
            generalize oP (cb B o n) a = y at *
            omega
          by_cases c : a < i
          · rw [if_pos c]; exact h9
          · rw [if_neg c]
            have : a = i := by omega
            rw [this] at h9
            omega
        rw [if_pos c2, q_isSite_149 (k := f_M_isSite_113 F f) hb hF8 hw hn hi (by omega) h1a c1 (by rw [c2, ht]) hw0 hw1 hp hpp hL (hB a h1a (by omega)) hj (if a < i then sN (cb B o n) a else j) 0 F fr (by omega) (by omega), ih (a + 1) f _ (by omega) (by omega) (by omega), show sFr (cb B o n) i j a = al (sFree (cb B o n) i j a) 0 (if a < i then sN (cb B o n) a else j) by unfold sFr; rw [c1, decide_eq_true (show oI (cb B o n) a = oI (cb B o n) i by rw [c2, ht])]; rfl]
      · rw [if_neg c2, show sFr (cb B o n) i j a = true by unfold sFr; rw [decide_eq_false (show ¬ oI (cb B o n) a = oI (cb B o n) i by rw [ht]; exact c2), Bool.and_false]; rfl, Bool.and_true]
    · have c1' : isS (cb B o n) a = false := by cases hq : isS (cb B o n) a <;> simp_all
      rw [if_pos c1', show sFr (cb B o n) i j a = true by unfold sFr; rw [c1', Bool.false_and]; rfl, Bool.and_true]
theorem q_isSite {i j : Nat} (hb : mb h m B) (hF : 65536 < F) (hw : w2 (cb B o n) n) (hn : o + n ≤ 65536) (hi : i < oS (cb B o n)) (hiS : isS (cb B o n) i = true) (hj : j < sN (cb B o n) i) (hB : ∀ a, 1 ≤ a → a ≤ i → sB4 (cb B o n) i j a) : f_M_isSite F m (nI o) (nI i) (nI j) h = some (bI (sOK (cb B o n) i j), h) := by
  obtain ⟨fs, h1⟩ := mb_o hb
  have ho := w1_rk hw.1 hn
  have hs := hw.1.2.1.2
  have hF8 : 8 < F := by omega
  have hS := isS_T hiS
  have hp := w1_sp hw.1 hi hS.1 hj
  have hM := w2_M hw
  have k0 : (0 : Int32) = nI 0 := rfl
  have eI := oI_lt (cb_lt B o n) i
  have eY := sY_lt (cb_lt B o n) i j
  have eL := sL_lt (cb_lt B o n) i j
  have hz := hw.1.2.2.2.2 _ hS.2.1 hS.2.2
  have eT := oT_lt (cb_lt B o n) (oI (cb B o n) i)
  unfold f_M_isSite
  rw [h1, bs, q_site hb hF8 ho hi, xb_mk, h1, bs, nI_add, q_sH hb hF8 hn hp, xb_mk, show le (cb B o n) (sP (cb B o n) i j + 8) 4 = sH (cb B o n) i j from rfl, q_width (sH_lt (cb_lt B o n) i j), xb_mk, h1, bs, q_info hb hF8 ho hi, xb_mk, h1, bs, nI_add, q_sY hb hF8 hn hp, xb_mk, show le (cb B o n) (sP (cb B o n) i j + 12) 4 = sY (cb B o n) i j from rfl, h1, bs, q_symbolMany hb (by omega) ho hw.1.2.1.1 (w2_z hw), xb_mk, lN_i]
  simp only [wI_n0, nI_l (show oM (cb B o n) < 2 ^ 31 by omega), pk_lLT (show sY (cb B o n) i j < 2 ^ 63 by omega) (show oM (cb B o n) < 2 ^ 63 by omega), k0, wI_0, h1, bs, q_type hb hF8 ho hS.2.1, xb_mk, lk, lEQ (show oT (cb B o n) (oI (cb B o n) i) < 2 ^ 64 by omega) (show 8 < 2 ^ 64 by decide), q_sL hb hF8 hn hp, q_size hb hF8 ho hS.2.1, f_M_isSite_58, f_M_isSite_105]
  rw [show le (cb B o n) (sP (cb B o n) i j) 8 = sL (cb B o n) i j from rfl]
  unfold sOK sOK0
  by_cases c1 : wd (sH (cb B o n) i j) = 16
  · rw [if_pos c1, decide_eq_false (fun q => q.1 c1), Bool.false_and]
    rfl
  · rw [if_neg c1]
    by_cases c2 : sY (cb B o n) i j < oM (cb B o n)
    · rw [if_pos c2]
      by_cases c3 : wd (sH (cb B o n) i j) = 0
      · rw [if_pos c3, decide_eq_true (show wd (sH (cb B o n) i j) ≠ 16 ∧ sY (cb B o n) i j < oM (cb B o n) ∧ _ from ⟨c1, c2, Or.inl c3⟩), decide_eq_true c3, Bool.true_or, Bool.true_and]
        rfl
      · rw [if_neg c3, wI_l c1, q_lies eL (Nat.lt_of_le_of_lt (wd_le c1) (by decide)) (Nat.lt_of_le_of_lt hz (by decide)), xb_mk]
        simp only [bI_0, decide_eq_false_iff_not]
        by_cases c4 : oT (cb B o n) (oI (cb B o n) i) = 8
        · rw [if_pos c4, decide_eq_false (fun q => q.2.2.elim c3 (fun g => g.1 c4)), Bool.false_and]
          rfl
        · rw [if_neg c4]
          by_cases c5 : sL (cb B o n) i j + wd (sH (cb B o n) i j) ≤ oZ (cb B o n) (oI (cb B o n) i)
          · have hL : sL (cb B o n) i j ≤ 16384 := Nat.le_trans (Nat.le_trans (Nat.le_add_right _ _) c5) hz
            rw [if_neg (fun q => q c5), show wI (sH (cb B o n) i j) = nI (wd (sH (cb B o n) i j)) by unfold wI; rw [if_neg c1], show nI 1 = bI true from rfl, show (bI true : Int32) = bI true from rfl]
            have e := q_isSite_113 hb hF hw.1 hn hi rfl (show oI (cb B o n) i < 2 ^ 31 by omega) rfl (wd_le c1) rfl hp hL (by omega) hB i 1 F true (by omega) (by omega) (by omega)
            rw [show nI 1 = bI true from rfl] at e
            rw [e, decide_eq_true (show wd (sH (cb B o n) i j) ≠ 16 ∧ sY (cb B o n) i j < oM (cb B o n) ∧ _ from ⟨c1, c2, Or.inr ⟨c4, c5⟩⟩), decide_eq_false c3, Bool.false_or]
          · rw [if_pos c5, decide_eq_false (fun q => q.2.2.elim c3 (fun g => c5 g.2)), Bool.false_and]
            rfl
    · rw [if_neg c2, decide_eq_false (fun q => c2 q.2.1), Bool.false_and]
      rfl
theorem al_iff {p : Nat → Bool} : ∀ {c i : Nat}, al p i c = true ↔ ∀ x, i ≤ x → x < i + c → p x = true
  | 0, i => ⟨fun _ x h1 h2 => absurd h2 (by omega), fun _ => rfl⟩
  | c + 1, i => by
    rw [al_s, Bool.and_eq_true, @al_iff p c (i + 1)]
    constructor
    · intro h x h1 h2
      by_cases e : x = i
      · rw [e]; exact h.1
      · exact h.2 x (by omega) (by omega)
    · intro h
      exact ⟨h i (by omega) (by omega), fun x h1 h2 => h x (by omega) (by omega)⟩
theorem sOK_0 {b : Nat → Nat} {i j : Nat} (h : sOK b i j = true) : sOK0 b i j = true := by
  unfold sOK at h
  exact ((Bool.and_eq_true _ _).mp h).1
theorem q_sitesError_67 {i : Nat} {k : Nat → Int32 → Int32 → px_H → Option (Int32 × px_H)} (hb : mb h m B) (hF : 65536 < F) (hw : w2 (cb B o n) n) (hn : o + n ≤ 65536) (hi : i < oS (cb B o n)) (hiS : isS (cb B o n) i = true) (hA : ∀ a, 1 ≤ a → a < i → isS (cb B o n) a = true → ∀ c, c < sN (cb B o n) a → sOK0 (cb B o n) a c = true) : ∀ (c j f : Nat), j + c = sN (cb B o n) i → c < f → (∀ x, x < j → sOK0 (cb B o n) i x = true) → f_M_sitesError_67 F k f m (nI o) (nI i) (nI j) h = if al (sOK (cb B o n) i) j c = true then k m (nI o) (nI (i + 1)) h else some (nI 7, h) := by
  obtain ⟨fs, h1⟩ := mb_o hb
  have ho := w1_rk hw.1 hn
  have hF8 : 8 < F := by omega
  have hS := isS_T hiS
  have k0 : (0 : Int32) = nI 0 := rfl
  have hZ := w1_s hw.1 hi hS.1
  have hZ63 : oZ (cb B o n) i < 2 ^ 63 := by
    generalize oZ (cb B o n) i = z at *
    generalize oP (cb B o n) i = y at *
    omega
  have hN : sN (cb B o n) i ≤ 65536 := by
    unfold sN
    generalize oZ (cb B o n) i = z at *
    generalize oP (cb B o n) i = y at *
    omega
  intro c
  induction c with
  | zero =>
    intro j f hj hf hx
    obtain ⟨f, rfl⟩ : ∃ g, f = g + 1 := ⟨f - 1, by omega⟩
    unfold f_M_sitesError_67
    rw [h1, bs, q_siteMany hb hF8 ho hi hZ63, xb_mk, if_pos (nI_le (by omega) (by omega)), f_M_sitesError_96, nI_add]
    rfl
  | succ c ih =>
    intro j f hj hf hx
    obtain ⟨f, rfl⟩ : ∃ g, f = g + 1 := ⟨f - 1, by omega⟩
    have hB : ∀ a, 1 ≤ a → a ≤ i → sB4 (cb B o n) i j a := by
      intro a h1a hai hq _ c hc
      by_cases e : a < i
      · rw [if_pos e] at hc
        exact hA a h1a e hq c hc
      · rw [if_neg e] at hc
        have : a = i := by omega
        rw [this]
        exact hx c hc
    unfold f_M_sitesError_67
    rw [h1, bs, q_siteMany hb hF8 ho hi hZ63, xb_mk, if_neg (nI_ge (by omega) (by omega)), h1, bs, q_isSite hb hF hw hn hi hiS (by omega) hB, xb_mk, nI_add, al_s]
    by_cases c1 : sOK (cb B o n) i j = true
    · rw [c1, if_neg (by decide), Bool.true_and]
      refine ih (j + 1) f (by omega) (by omega) ?_
      intro x hxj
      by_cases e : x = j
      · rw [e]; exact sOK_0 c1
      · exact hx x (by omega)
    · have c2 : sOK (cb B o n) i j = false := Bool.eq_false_iff.mpr c1
      rw [c2, if_pos (show bI false = 0 from rfl), Bool.false_and]
      rfl
theorem q_sitesError_2 (hb : mb h m B) (hF : 65536 < F) (hw : w2 (cb B o n) n) (hn : o + n ≤ 65536) : ∀ (c i f : Nat), i + c = oS (cb B o n) → 1 ≤ i → c < f → (∀ a, 1 ≤ a → a < i → isS (cb B o n) a = true → ∀ c, c < sN (cb B o n) a → sOK0 (cb B o n) a c = true) → f_M_sitesError_2 F f m (nI o) (nI i) h = some (nI (if al (fun i => !isS (cb B o n) i || sSec (cb B o n) i) i c = true then 0 else 7), h) := by
  obtain ⟨fs, h1⟩ := mb_o hb
  have ho := w1_rk hw.1 hn
  have hs := hw.1.2.1.1
  have hs2 := hw.1.2.1.2
  have hy := oY_lt hs
  have hF8 : 8 < F := by omega
  have k0 : (0 : Int32) = nI 0 := rfl
  intro c
  induction c with
  | zero =>
    intro i f hi h1i hf hA
    obtain ⟨f, rfl⟩ : ∃ g, f = g + 1 := ⟨f - 1, by omega⟩
    unfold f_M_sitesError_2
    rw [h1, bs, q_sections hb hF8 ho.1, xb_mk, if_pos (nI_le (by omega) (by omega))]
    rfl
  | succ c ih =>
    intro i f hi h1i hf hA
    obtain ⟨f, rfl⟩ : ∃ g, f = g + 1 := ⟨f - 1, by omega⟩
    have hi2 : i < oS (cb B o n) := by omega
    unfold f_M_sitesError_2
    rw [h1, bs, q_sections hb hF8 ho.1, xb_mk, if_neg (nI_ge (by omega) (by omega)), h1, bs, q_isSites hb hF8 ho hi2, xb_mk, al_s]
    simp only [f_M_sitesError_96, f_M_sitesError_62, nI_add, k0, bI_0, h1, bs, q_size hb hF8 ho hi2, xb_mk, q_symbols hb (show 24 < F by omega) ho hs, q_linkOf hb hF8 ho hi2, nI_l (show oY (cb B o n) < 2 ^ 31 by omega)]
    by_cases c1 : isS (cb B o n) i = true
    · have hS := isS_T c1
      have hZ := w1_s hw.1 hi2 hS.1
      have hL := oL_lt (cb_lt B o n) i
      have hZ63 : oZ (cb B o n) i < 2 ^ 63 := by
        generalize oZ (cb B o n) i = z at *
        generalize oP (cb B o n) i = y at *
        omega
      have hN : sN (cb B o n) i ≤ 65536 := by
        unfold sN
        generalize oZ (cb B o n) i = z at *
        generalize oP (cb B o n) i = y at *
        omega
      rw [q_sitesError_67 (k := f_M_sitesError_2 F f) hb hF hw hn hi2 c1 hA (sN (cb B o n) i) 0 F (by omega) (by omega) (fun x hx => absurd hx (Nat.not_lt_zero _))]
      simp only [lk, pk_lRem hZ63 (show 0 < 24 by decide) (show 24 < 2 ^ 63 by decide), lEQ (show oZ (cb B o n) i % 24 < 2 ^ 64 from Nat.lt_of_lt_of_le (Nat.mod_lt _ (by decide)) (by decide)) (show 0 < 2 ^ 64 by decide), nI_eq (show oY (cb B o n) < 2 ^ 31 by omega) (show 0 < 2 ^ 31 by decide), lEQ (show oL (cb B o n) i < 2 ^ 64 by omega) (show oY (cb B o n) < 2 ^ 64 by omega)]
      rw [if_neg (show ¬ isS (cb B o n) i = false by rw [c1]; decide), c1, Bool.not_true, Bool.false_or]
      unfold sSec
      by_cases d1 : oZ (cb B o n) i % 24 = 0
      · by_cases d2 : oY (cb B o n) = 0
        · rw [if_pos d1, if_pos d2, decide_eq_false (fun q => q.2.1 d2), Bool.false_and, Bool.false_and]
          rfl
        · by_cases d3 : oL (cb B o n) i = oY (cb B o n)
          · rw [if_pos d1, if_neg d2, if_pos d3, decide_eq_true (show oZ (cb B o n) i % 24 = 0 ∧ oY (cb B o n) ≠ 0 ∧ oL (cb B o n) i = oY (cb B o n) from ⟨d1, d2, d3⟩), Bool.true_and]
            by_cases d4 : al (sOK (cb B o n) i) 0 (sN (cb B o n) i) = true
            · rw [if_pos d4, d4, Bool.true_and]
              refine ih (i + 1) f (by omega) (by omega) (by omega) ?_
              intro a h1a ha hq c hc
              by_cases e : a = i
              · rw [e] at hc ⊢
                exact sOK_0 (al_iff.mp d4 c (Nat.zero_le _) (by omega))
              · exact hA a h1a (by omega) hq c hc
            · rw [if_neg d4, Bool.eq_false_iff.mpr d4, Bool.false_and]
              rfl
          · rw [if_pos d1, if_neg d2, if_neg d3, decide_eq_false (fun q => d3 q.2.2), Bool.false_and, Bool.false_and]
            rfl
      · rw [if_neg d1, decide_eq_false (fun q => d1 q.1), Bool.false_and, Bool.false_and]
        rfl
    · have c2 : isS (cb B o n) i = false := Bool.eq_false_iff.mpr c1
      rw [if_pos c2, c2, Bool.not_false, Bool.true_or, Bool.true_and]
      refine ih (i + 1) f (by omega) (by omega) (by omega) ?_
      intro a h1a ha hq
      by_cases e : a = i
      · rw [e] at hq; exact absurd hq c1
      · exact hA a h1a (by omega) hq
theorem q_sitesError (hb : mb h m B) (hF : 65536 < F) (hw : w2 (cb B o n) n) (hn : o + n ≤ 65536) : f_M_sitesError F m (nI o) h = some (nI (eSit (cb B o n)), h) := by
  unfold f_M_sitesError eSit
  have := hw.1.2.1.1
  have := hw.1.2.1.2
  exact q_sitesError_2 hb hF hw hn (oS (cb B o n) - 1) 1 F (by omega) (by omega) (by omega) (fun a h1 h2 => absurd h2 (by omega))
end SIT3
end
