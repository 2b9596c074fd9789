/-! what the document says of an object's bytes b, n of them -/
def oS (b : Nat → Nat) : Nat := le b 60 2
def oR (b : Nat → Nat) : Nat := le b 40 8
def oT (b : Nat → Nat) (i : Nat) : Nat := le b (oR b + 64 * i + 4) 4
def oF (b : Nat → Nat) (i : Nat) : Nat := le b (oR b + 64 * i + 8) 8
def oP (b : Nat → Nat) (i : Nat) : Nat := le b (oR b + 64 * i + 24) 8
def oZ (b : Nat → Nat) (i : Nat) : Nat := le b (oR b + 64 * i + 32) 8
def oL (b : Nat → Nat) (i : Nat) : Nat := le b (oR b + 64 * i + 40) 4
def oI (b : Nat → Nat) (i : Nat) : Nat := le b (oR b + 64 * i + 44) 4
def oA (b : Nat → Nat) (i : Nat) : Nat := le b (oR b + 64 * i + 48) 8
def isP (v : Nat) : Bool := decide (1 ≤ v ∧ v ≤ 4096 ∧ v &&& (v - 1) = 0)
def oK (b : Nat → Nat) (i : Nat) : Bool := decide ((oT b i = 1 ∨ oT b i = 8) ∧ ¬ (oF b i &&& 2) = 0)
/-- the group of a kept section -/
def oG (b : Nat → Nat) (i : Nat) : Nat := if ¬ (oF b i &&& 1024) = 0 then (if oT b i = 8 then 5 else 4) else if oT b i = 8 then 3 else if ¬ (oF b i &&& 4) = 0 then 0 else if ¬ (oF b i &&& 1) = 0 then 2 else 1
def oH (b : Nat → Nat) : Bool := decide (le b 0 7 = 282584257676671 ∧ le b 16 2 = 1 ∧ le b 18 2 = 62 ∧ le b 20 4 = 1 ∧ le b 52 2 = 64 ∧ le b 58 2 = 64)
/-- the error of a section -/
def eSec (b : Nat → Nat) (n i : Nat) : Nat := if oT b i ≠ 0 ∧ oT b i ≠ 8 ∧ ¬ oP b i + oZ b i ≤ n then 3 else if oK b i = true ∧ (16384 < oZ b i ∨ oA b i ≠ 0 ∧ isP (oA b i) = false) then 4 else 0
/-- the first of f i, f (i + 1) .. (c of them) that is not 0 -/
def fst0 (f : Nat → Nat) : Nat → Nat → Nat
  | _, 0 => 0
  | i, c + 1 => if f i = 0 then fst0 f (i + 1) c else f i
/-- the first i .. with p, c of them; d without one -/
def fnd (p : Nat → Bool) (d : Nat) : Nat → Nat → Nat
  | _, 0 => d
  | i, c + 1 => if p i = true then i else fnd p d (i + 1) c
/-- all of i .., c of them -/
def al (p : Nat → Bool) : Nat → Nat → Bool
  | _, 0 => true
  | i, c + 1 => p i && al p (i + 1) c
/-- how many of i .., c of them -/
def cnt (p : Nat → Bool) : Nat → Nat → Nat
  | _, 0 => 0
  | i, c + 1 => (if p i = true then 1 else 0) + cnt p (i + 1) c
theorem fst0_s (f : Nat → Nat) (i c : Nat) : fst0 f i (c + 1) = if f i = 0 then fst0 f (i + 1) c else f i := rfl
theorem fnd_s (p : Nat → Bool) (d i c : Nat) : fnd p d i (c + 1) = if p i = true then i else fnd p d (i + 1) c := rfl
theorem al_s (p : Nat → Bool) (i c : Nat) : al p i (c + 1) = (p i && al p (i + 1) c) := rfl
theorem cnt_s (p : Nat → Bool) (i c : Nat) : cnt p i (c + 1) = (if p i = true then 1 else 0) + cnt p (i + 1) c := rfl
/-- the symbols' section, 0 without one -/
def oY (b : Nat → Nat) : Nat := fnd (fun i => decide (oT b i = 2)) 0 1 (oS b - 1)
/-- how many symbols -/
def oM (b : Nat → Nat) : Nat := if oY b = 0 then 0 else oZ b (oY b) / 24
def yP (b : Nat → Nat) (k : Nat) : Nat := oP b (oY b) + 24 * k
def yN (b : Nat → Nat) (k : Nat) : Nat := le b (yP b k) 4
def yB (b : Nat → Nat) (k : Nat) : Nat := b (yP b k + 4) / 16
def yW (b : Nat → Nat) (k : Nat) : Nat := le b (yP b k + 6) 2
def yV (b : Nat → Nat) (k : Nat) : Nat := le b (yP b k + 8) 8
def yZ (b : Nat → Nat) (k : Nat) : Nat := le b (yP b k + 16) 8
/-- the names' section -/
def oX (b : Nat → Nat) : Nat := oL b (oY b)
/-- how many bytes that are not 0 from p on, at most c -/
def run (b : Nat → Nat) : Nat → Nat → Nat
  | _, 0 => 0
  | p, c + 1 => if b p = 0 then 0 else run b (p + 1) c + 1
/-- how many bytes the name of a symbol has, or 21 -/
def yL (b : Nat → Nat) (k : Nat) : Nat := run b (oP b (oX b) + yN b k) 21
def yG (b : Nat → Nat) (k : Nat) : Bool := decide (yN b k < oZ b (oX b) ∧ 1 ≤ yL b k ∧ yL b k ≤ 20 ∧ yN b k + yL b k < oZ b (oX b))
section SPEC
variable {b : Nat → Nat}
theorem oS_lt (hb : ∀ k, b k < 256) : oS b < 65536 := le_lt hb _ 2
theorem oR_lt (hb : ∀ k, b k < 256) : oR b < 2 ^ 64 := le_lt hb _ 8
theorem oT_lt (hb : ∀ k, b k < 256) (i : Nat) : oT b i < 4294967296 := le_lt hb _ 4
theorem oF_lt (hb : ∀ k, b k < 256) (i : Nat) : oF b i < 2 ^ 64 := le_lt hb _ 8
theorem oP_lt (hb : ∀ k, b k < 256) (i : Nat) : oP b i < 2 ^ 64 := le_lt hb _ 8
theorem oZ_lt (hb : ∀ k, b k < 256) (i : Nat) : oZ b i < 2 ^ 64 := le_lt hb _ 8
theorem oL_lt (hb : ∀ k, b k < 256) (i : Nat) : oL b i < 4294967296 := le_lt hb _ 4
theorem oI_lt (hb : ∀ k, b k < 256) (i : Nat) : oI b i < 4294967296 := le_lt hb _ 4
theorem oA_lt (hb : ∀ k, b k < 256) (i : Nat) : oA b i < 2 ^ 64 := le_lt hb _ 8
theorem yN_lt (hb : ∀ k, b k < 256) (k : Nat) : yN b k < 4294967296 := le_lt hb _ 4
theorem yB_lt (hb : ∀ k, b k < 256) (k : Nat) : yB b k < 16 := by have := hb (yP b k + 4); unfold yB; omega
theorem yW_lt (hb : ∀ k, b k < 256) (k : Nat) : yW b k < 65536 := le_lt hb _ 2
theorem yV_lt (hb : ∀ k, b k < 256) (k : Nat) : yV b k < 2 ^ 64 := le_lt hb _ 8
theorem yZ_lt (hb : ∀ k, b k < 256) (k : Nat) : yZ b k < 2 ^ 64 := le_lt hb _ 8
end SPEC
theorem fnd_le {p : Nat → Bool} {d : Nat} : ∀ {i c : Nat}, fnd p d i c = d ∨ (i ≤ fnd p d i c ∧ fnd p d i c < i + c ∧ p (fnd p d i c) = true)
  | _, 0 => Or.inl rfl
  | i, c + 1 => by
    unfold fnd
    by_cases h : p i = true
    · rw [if_pos h]; exact Or.inr ⟨Nat.le_refl _, by omega, h⟩
    · rw [if_neg h]
      rcases @fnd_le p d (i + 1) c with h1 | h1
      · exact Or.inl h1
      · exact Or.inr ⟨by omega, by omega, h1.2.2⟩
