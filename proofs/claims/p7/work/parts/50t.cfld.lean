/-! the class's fields one by one: generated (gencl.py) -/
section CF
variable {sk : Nat → Nat × Nat × Nat} {L a : Nat} {τ : px_TT}
theorem C0r0 (h : ob sk L 0 a) {q : Nat} (hq : fN τ a 0 = some q) : xgR (cH sk L τ) 0 0 a = some q := c_gR h rfl (by decide) hq
theorem C0n0 (h : ob sk L 0 a) : xgN (cH sk L τ) 0 0 a = some (fN τ a 0) := c_gN h rfl (by decide)
theorem C0w0 (h : ob sk L 0 a) (v : Option Nat) : xpN (cH sk L τ) 0 0 a v = some (cH sk L (tN τ a 0 v)) := c_pN h rfl (by decide) v
theorem C0v0 (h : ob sk L 0 a) (v : Nat) : xpR (cH sk L τ) 0 0 a v = some (cH sk L (tN τ a 0 (some v))) := c_pN h rfl (by decide) (some v)
theorem C0r1 (h : ob sk L 0 a) {q : Nat} (hq : fN τ a 1 = some q) : xgR (cH sk L τ) 0 1 a = some q := c_gR h rfl (by decide) hq
theorem C0n1 (h : ob sk L 0 a) : xgN (cH sk L τ) 0 1 a = some (fN τ a 1) := c_gN h rfl (by decide)
theorem C0w1 (h : ob sk L 0 a) (v : Option Nat) : xpN (cH sk L τ) 0 1 a v = some (cH sk L (tN τ a 1 v)) := c_pN h rfl (by decide) v
theorem C0v1 (h : ob sk L 0 a) (v : Nat) : xpR (cH sk L τ) 0 1 a v = some (cH sk L (tN τ a 1 (some v))) := c_pN h rfl (by decide) (some v)
theorem C0r2 (h : ob sk L 0 a) {q : Nat} (hq : fN τ a 2 = some q) : xgR (cH sk L τ) 0 2 a = some q := c_gR h rfl (by decide) hq
theorem C0n2 (h : ob sk L 0 a) : xgN (cH sk L τ) 0 2 a = some (fN τ a 2) := c_gN h rfl (by decide)
theorem C0w2 (h : ob sk L 0 a) (v : Option Nat) : xpN (cH sk L τ) 0 2 a v = some (cH sk L (tN τ a 2 v)) := c_pN h rfl (by decide) v
theorem C0v2 (h : ob sk L 0 a) (v : Nat) : xpR (cH sk L τ) 0 2 a v = some (cH sk L (tN τ a 2 (some v))) := c_pN h rfl (by decide) (some v)
theorem C0r3 (h : ob sk L 0 a) {q : Nat} (hq : fN τ a 3 = some q) : xgR (cH sk L τ) 0 3 a = some q := c_gR h rfl (by decide) hq
theorem C0n3 (h : ob sk L 0 a) : xgN (cH sk L τ) 0 3 a = some (fN τ a 3) := c_gN h rfl (by decide)
theorem C0w3 (h : ob sk L 0 a) (v : Option Nat) : xpN (cH sk L τ) 0 3 a v = some (cH sk L (tN τ a 3 v)) := c_pN h rfl (by decide) v
theorem C0v3 (h : ob sk L 0 a) (v : Nat) : xpR (cH sk L τ) 0 3 a v = some (cH sk L (tN τ a 3 (some v))) := c_pN h rfl (by decide) (some v)
theorem C0r4 (h : ob sk L 0 a) {q : Nat} (hq : fN τ a 4 = some q) : xgR (cH sk L τ) 0 4 a = some q := c_gR h rfl (by decide) hq
theorem C0n4 (h : ob sk L 0 a) : xgN (cH sk L τ) 0 4 a = some (fN τ a 4) := c_gN h rfl (by decide)
theorem C0w4 (h : ob sk L 0 a) (v : Option Nat) : xpN (cH sk L τ) 0 4 a v = some (cH sk L (tN τ a 4 v)) := c_pN h rfl (by decide) v
theorem C0v4 (h : ob sk L 0 a) (v : Nat) : xpR (cH sk L τ) 0 4 a v = some (cH sk L (tN τ a 4 (some v))) := c_pN h rfl (by decide) (some v)
theorem C0r5 (h : ob sk L 0 a) {q : Nat} (hq : fN τ a 5 = some q) : xgR (cH sk L τ) 0 5 a = some q := c_gR h rfl (by decide) hq
theorem C0n5 (h : ob sk L 0 a) : xgN (cH sk L τ) 0 5 a = some (fN τ a 5) := c_gN h rfl (by decide)
theorem C0w5 (h : ob sk L 0 a) (v : Option Nat) : xpN (cH sk L τ) 0 5 a v = some (cH sk L (tN τ a 5 v)) := c_pN h rfl (by decide) v
theorem C0v5 (h : ob sk L 0 a) (v : Nat) : xpR (cH sk L τ) 0 5 a v = some (cH sk L (tN τ a 5 (some v))) := c_pN h rfl (by decide) (some v)
theorem C0g6 (h : ob sk L 0 a) : xgI (cH sk L τ) 0 6 a = some (fI τ a 6) := c_gI h rfl (by decide)
theorem C0p6 (h : ob sk L 0 a) (v : Int32) : xpI (cH sk L τ) 0 6 a v = some (cH sk L (tI τ a 6 v)) := c_pI h rfl (by decide) v
theorem C0r7 (h : ob sk L 0 a) {q : Nat} (hq : fN τ a 7 = some q) : xgR (cH sk L τ) 0 7 a = some q := c_gR h rfl (by decide) hq
theorem C0n7 (h : ob sk L 0 a) : xgN (cH sk L τ) 0 7 a = some (fN τ a 7) := c_gN h rfl (by decide)
theorem C0w7 (h : ob sk L 0 a) (v : Option Nat) : xpN (cH sk L τ) 0 7 a v = some (cH sk L (tN τ a 7 v)) := c_pN h rfl (by decide) v
theorem C0v7 (h : ob sk L 0 a) (v : Nat) : xpR (cH sk L τ) 0 7 a v = some (cH sk L (tN τ a 7 (some v))) := c_pN h rfl (by decide) (some v)
theorem C0r8 (h : ob sk L 0 a) {q : Nat} (hq : fN τ a 8 = some q) : xgR (cH sk L τ) 0 8 a = some q := c_gR h rfl (by decide) hq
theorem C0n8 (h : ob sk L 0 a) : xgN (cH sk L τ) 0 8 a = some (fN τ a 8) := c_gN h rfl (by decide)
theorem C0w8 (h : ob sk L 0 a) (v : Option Nat) : xpN (cH sk L τ) 0 8 a v = some (cH sk L (tN τ a 8 v)) := c_pN h rfl (by decide) v
theorem C0v8 (h : ob sk L 0 a) (v : Nat) : xpR (cH sk L τ) 0 8 a v = some (cH sk L (tN τ a 8 (some v))) := c_pN h rfl (by decide) (some v)
theorem C0r9 (h : ob sk L 0 a) {q : Nat} (hq : fN τ a 9 = some q) : xgR (cH sk L τ) 0 9 a = some q := c_gR h rfl (by decide) hq
theorem C0n9 (h : ob sk L 0 a) : xgN (cH sk L τ) 0 9 a = some (fN τ a 9) := c_gN h rfl (by decide)
theorem C0w9 (h : ob sk L 0 a) (v : Option Nat) : xpN (cH sk L τ) 0 9 a v = some (cH sk L (tN τ a 9 v)) := c_pN h rfl (by decide) v
theorem C0v9 (h : ob sk L 0 a) (v : Nat) : xpR (cH sk L τ) 0 9 a v = some (cH sk L (tN τ a 9 (some v))) := c_pN h rfl (by decide) (some v)
theorem C0r10 (h : ob sk L 0 a) {q : Nat} (hq : fN τ a 10 = some q) : xgR (cH sk L τ) 0 10 a = some q := c_gR h rfl (by decide) hq
theorem C0n10 (h : ob sk L 0 a) : xgN (cH sk L τ) 0 10 a = some (fN τ a 10) := c_gN h rfl (by decide)
theorem C0w10 (h : ob sk L 0 a) (v : Option Nat) : xpN (cH sk L τ) 0 10 a v = some (cH sk L (tN τ a 10 v)) := c_pN h rfl (by decide) v
theorem C0v10 (h : ob sk L 0 a) (v : Nat) : xpR (cH sk L τ) 0 10 a v = some (cH sk L (tN τ a 10 (some v))) := c_pN h rfl (by decide) (some v)
theorem C0r11 (h : ob sk L 0 a) {q : Nat} (hq : fN τ a 11 = some q) : xgR (cH sk L τ) 0 11 a = some q := c_gR h rfl (by decide) hq
theorem C0n11 (h : ob sk L 0 a) : xgN (cH sk L τ) 0 11 a = some (fN τ a 11) := c_gN h rfl (by decide)
theorem C0w11 (h : ob sk L 0 a) (v : Option Nat) : xpN (cH sk L τ) 0 11 a v = some (cH sk L (tN τ a 11 v)) := c_pN h rfl (by decide) v
theorem C0v11 (h : ob sk L 0 a) (v : Nat) : xpR (cH sk L τ) 0 11 a v = some (cH sk L (tN τ a 11 (some v))) := c_pN h rfl (by decide) (some v)
theorem C0r12 (h : ob sk L 0 a) {q : Nat} (hq : fN τ a 12 = some q) : xgR (cH sk L τ) 0 12 a = some q := c_gR h rfl (by decide) hq
theorem C0n12 (h : ob sk L 0 a) : xgN (cH sk L τ) 0 12 a = some (fN τ a 12) := c_gN h rfl (by decide)
theorem C0w12 (h : ob sk L 0 a) (v : Option Nat) : xpN (cH sk L τ) 0 12 a v = some (cH sk L (tN τ a 12 v)) := c_pN h rfl (by decide) v
theorem C0v12 (h : ob sk L 0 a) (v : Nat) : xpR (cH sk L τ) 0 12 a v = some (cH sk L (tN τ a 12 (some v))) := c_pN h rfl (by decide) (some v)
theorem C0r13 (h : ob sk L 0 a) {q : Nat} (hq : fN τ a 13 = some q) : xgR (cH sk L τ) 0 13 a = some q := c_gR h rfl (by decide) hq
theorem C0n13 (h : ob sk L 0 a) : xgN (cH sk L τ) 0 13 a = some (fN τ a 13) := c_gN h rfl (by decide)
theorem C0w13 (h : ob sk L 0 a) (v : Option Nat) : xpN (cH sk L τ) 0 13 a v = some (cH sk L (tN τ a 13 v)) := c_pN h rfl (by decide) v
theorem C0v13 (h : ob sk L 0 a) (v : Nat) : xpR (cH sk L τ) 0 13 a v = some (cH sk L (tN τ a 13 (some v))) := c_pN h rfl (by decide) (some v)
theorem C0r14 (h : ob sk L 0 a) {q : Nat} (hq : fN τ a 14 = some q) : xgR (cH sk L τ) 0 14 a = some q := c_gR h rfl (by decide) hq
theorem C0n14 (h : ob sk L 0 a) : xgN (cH sk L τ) 0 14 a = some (fN τ a 14) := c_gN h rfl (by decide)
theorem C0w14 (h : ob sk L 0 a) (v : Option Nat) : xpN (cH sk L τ) 0 14 a v = some (cH sk L (tN τ a 14 v)) := c_pN h rfl (by decide) v
theorem C0v14 (h : ob sk L 0 a) (v : Nat) : xpR (cH sk L τ) 0 14 a v = some (cH sk L (tN τ a 14 (some v))) := c_pN h rfl (by decide) (some v)
theorem C0r15 (h : ob sk L 0 a) {q : Nat} (hq : fN τ a 15 = some q) : xgR (cH sk L τ) 0 15 a = some q := c_gR h rfl (by decide) hq
theorem C0n15 (h : ob sk L 0 a) : xgN (cH sk L τ) 0 15 a = some (fN τ a 15) := c_gN h rfl (by decide)
theorem C0w15 (h : ob sk L 0 a) (v : Option Nat) : xpN (cH sk L τ) 0 15 a v = some (cH sk L (tN τ a 15 v)) := c_pN h rfl (by decide) v
theorem C0v15 (h : ob sk L 0 a) (v : Nat) : xpR (cH sk L τ) 0 15 a v = some (cH sk L (tN τ a 15 (some v))) := c_pN h rfl (by decide) (some v)
theorem C0r16 (h : ob sk L 0 a) {q : Nat} (hq : fN τ a 16 = some q) : xgR (cH sk L τ) 0 16 a = some q := c_gR h rfl (by decide) hq
theorem C0n16 (h : ob sk L 0 a) : xgN (cH sk L τ) 0 16 a = some (fN τ a 16) := c_gN h rfl (by decide)
theorem C0w16 (h : ob sk L 0 a) (v : Option Nat) : xpN (cH sk L τ) 0 16 a v = some (cH sk L (tN τ a 16 v)) := c_pN h rfl (by decide) v
theorem C0v16 (h : ob sk L 0 a) (v : Nat) : xpR (cH sk L τ) 0 16 a v = some (cH sk L (tN τ a 16 (some v))) := c_pN h rfl (by decide) (some v)
theorem C0g17 (h : ob sk L 0 a) : xgI (cH sk L τ) 0 17 a = some (fI τ a 17) := c_gI h rfl (by decide)
theorem C0p17 (h : ob sk L 0 a) (v : Int32) : xpI (cH sk L τ) 0 17 a v = some (cH sk L (tI τ a 17 v)) := c_pI h rfl (by decide) v
theorem C1r0 (h : ob sk L 1 a) {q : Nat} (hq : fN τ a 0 = some q) : xgR (cH sk L τ) 1 0 a = some q := c_gR h rfl (by decide) hq
theorem C1n0 (h : ob sk L 1 a) : xgN (cH sk L τ) 1 0 a = some (fN τ a 0) := c_gN h rfl (by decide)
theorem C1w0 (h : ob sk L 1 a) (v : Option Nat) : xpN (cH sk L τ) 1 0 a v = some (cH sk L (tN τ a 0 v)) := c_pN h rfl (by decide) v
theorem C1v0 (h : ob sk L 1 a) (v : Nat) : xpR (cH sk L τ) 1 0 a v = some (cH sk L (tN τ a 0 (some v))) := c_pN h rfl (by decide) (some v)
theorem C1r1 (h : ob sk L 1 a) {q : Nat} (hq : fN τ a 1 = some q) : xgR (cH sk L τ) 1 1 a = some q := c_gR h rfl (by decide) hq
theorem C1n1 (h : ob sk L 1 a) : xgN (cH sk L τ) 1 1 a = some (fN τ a 1) := c_gN h rfl (by decide)
theorem C1w1 (h : ob sk L 1 a) (v : Option Nat) : xpN (cH sk L τ) 1 1 a v = some (cH sk L (tN τ a 1 v)) := c_pN h rfl (by decide) v
theorem C1v1 (h : ob sk L 1 a) (v : Nat) : xpR (cH sk L τ) 1 1 a v = some (cH sk L (tN τ a 1 (some v))) := c_pN h rfl (by decide) (some v)
theorem C1r2 (h : ob sk L 1 a) {q : Nat} (hq : fN τ a 2 = some q) : xgR (cH sk L τ) 1 2 a = some q := c_gR h rfl (by decide) hq
theorem C1n2 (h : ob sk L 1 a) : xgN (cH sk L τ) 1 2 a = some (fN τ a 2) := c_gN h rfl (by decide)
theorem C1w2 (h : ob sk L 1 a) (v : Option Nat) : xpN (cH sk L τ) 1 2 a v = some (cH sk L (tN τ a 2 v)) := c_pN h rfl (by decide) v
theorem C1v2 (h : ob sk L 1 a) (v : Nat) : xpR (cH sk L τ) 1 2 a v = some (cH sk L (tN τ a 2 (some v))) := c_pN h rfl (by decide) (some v)
theorem C1r3 (h : ob sk L 1 a) {q : Nat} (hq : fN τ a 3 = some q) : xgR (cH sk L τ) 1 3 a = some q := c_gR h rfl (by decide) hq
theorem C1n3 (h : ob sk L 1 a) : xgN (cH sk L τ) 1 3 a = some (fN τ a 3) := c_gN h rfl (by decide)
theorem C1w3 (h : ob sk L 1 a) (v : Option Nat) : xpN (cH sk L τ) 1 3 a v = some (cH sk L (tN τ a 3 v)) := c_pN h rfl (by decide) v
theorem C1v3 (h : ob sk L 1 a) (v : Nat) : xpR (cH sk L τ) 1 3 a v = some (cH sk L (tN τ a 3 (some v))) := c_pN h rfl (by decide) (some v)
theorem C1r4 (h : ob sk L 1 a) {q : Nat} (hq : fN τ a 4 = some q) : xgR (cH sk L τ) 1 4 a = some q := c_gR h rfl (by decide) hq
theorem C1n4 (h : ob sk L 1 a) : xgN (cH sk L τ) 1 4 a = some (fN τ a 4) := c_gN h rfl (by decide)
theorem C1w4 (h : ob sk L 1 a) (v : Option Nat) : xpN (cH sk L τ) 1 4 a v = some (cH sk L (tN τ a 4 v)) := c_pN h rfl (by decide) v
theorem C1v4 (h : ob sk L 1 a) (v : Nat) : xpR (cH sk L τ) 1 4 a v = some (cH sk L (tN τ a 4 (some v))) := c_pN h rfl (by decide) (some v)
theorem C2r0 (h : ob sk L 2 a) {q : Nat} (hq : fN τ a 0 = some q) : xgR (cH sk L τ) 2 0 a = some q := c_gR h rfl (by decide) hq
theorem C2n0 (h : ob sk L 2 a) : xgN (cH sk L τ) 2 0 a = some (fN τ a 0) := c_gN h rfl (by decide)
theorem C2w0 (h : ob sk L 2 a) (v : Option Nat) : xpN (cH sk L τ) 2 0 a v = some (cH sk L (tN τ a 0 v)) := c_pN h rfl (by decide) v
theorem C2v0 (h : ob sk L 2 a) (v : Nat) : xpR (cH sk L τ) 2 0 a v = some (cH sk L (tN τ a 0 (some v))) := c_pN h rfl (by decide) (some v)
theorem C2r1 (h : ob sk L 2 a) {q : Nat} (hq : fN τ a 1 = some q) : xgR (cH sk L τ) 2 1 a = some q := c_gR h rfl (by decide) hq
theorem C2n1 (h : ob sk L 2 a) : xgN (cH sk L τ) 2 1 a = some (fN τ a 1) := c_gN h rfl (by decide)
theorem C2w1 (h : ob sk L 2 a) (v : Option Nat) : xpN (cH sk L τ) 2 1 a v = some (cH sk L (tN τ a 1 v)) := c_pN h rfl (by decide) v
theorem C2v1 (h : ob sk L 2 a) (v : Nat) : xpR (cH sk L τ) 2 1 a v = some (cH sk L (tN τ a 1 (some v))) := c_pN h rfl (by decide) (some v)
theorem C2r2 (h : ob sk L 2 a) {q : Nat} (hq : fN τ a 2 = some q) : xgR (cH sk L τ) 2 2 a = some q := c_gR h rfl (by decide) hq
theorem C2n2 (h : ob sk L 2 a) : xgN (cH sk L τ) 2 2 a = some (fN τ a 2) := c_gN h rfl (by decide)
theorem C2w2 (h : ob sk L 2 a) (v : Option Nat) : xpN (cH sk L τ) 2 2 a v = some (cH sk L (tN τ a 2 v)) := c_pN h rfl (by decide) v
theorem C2v2 (h : ob sk L 2 a) (v : Nat) : xpR (cH sk L τ) 2 2 a v = some (cH sk L (tN τ a 2 (some v))) := c_pN h rfl (by decide) (some v)
theorem C2r3 (h : ob sk L 2 a) {q : Nat} (hq : fN τ a 3 = some q) : xgR (cH sk L τ) 2 3 a = some q := c_gR h rfl (by decide) hq
theorem C2n3 (h : ob sk L 2 a) : xgN (cH sk L τ) 2 3 a = some (fN τ a 3) := c_gN h rfl (by decide)
theorem C2w3 (h : ob sk L 2 a) (v : Option Nat) : xpN (cH sk L τ) 2 3 a v = some (cH sk L (tN τ a 3 v)) := c_pN h rfl (by decide) v
theorem C2v3 (h : ob sk L 2 a) (v : Nat) : xpR (cH sk L τ) 2 3 a v = some (cH sk L (tN τ a 3 (some v))) := c_pN h rfl (by decide) (some v)
theorem C2r4 (h : ob sk L 2 a) {q : Nat} (hq : fN τ a 4 = some q) : xgR (cH sk L τ) 2 4 a = some q := c_gR h rfl (by decide) hq
theorem C2n4 (h : ob sk L 2 a) : xgN (cH sk L τ) 2 4 a = some (fN τ a 4) := c_gN h rfl (by decide)
theorem C2w4 (h : ob sk L 2 a) (v : Option Nat) : xpN (cH sk L τ) 2 4 a v = some (cH sk L (tN τ a 4 v)) := c_pN h rfl (by decide) v
theorem C2v4 (h : ob sk L 2 a) (v : Nat) : xpR (cH sk L τ) 2 4 a v = some (cH sk L (tN τ a 4 (some v))) := c_pN h rfl (by decide) (some v)
theorem C2r5 (h : ob sk L 2 a) {q : Nat} (hq : fN τ a 5 = some q) : xgR (cH sk L τ) 2 5 a = some q := c_gR h rfl (by decide) hq
theorem C2n5 (h : ob sk L 2 a) : xgN (cH sk L τ) 2 5 a = some (fN τ a 5) := c_gN h rfl (by decide)
theorem C2w5 (h : ob sk L 2 a) (v : Option Nat) : xpN (cH sk L τ) 2 5 a v = some (cH sk L (tN τ a 5 v)) := c_pN h rfl (by decide) v
theorem C2v5 (h : ob sk L 2 a) (v : Nat) : xpR (cH sk L τ) 2 5 a v = some (cH sk L (tN τ a 5 (some v))) := c_pN h rfl (by decide) (some v)
theorem C2r6 (h : ob sk L 2 a) {q : Nat} (hq : fN τ a 6 = some q) : xgR (cH sk L τ) 2 6 a = some q := c_gR h rfl (by decide) hq
theorem C2n6 (h : ob sk L 2 a) : xgN (cH sk L τ) 2 6 a = some (fN τ a 6) := c_gN h rfl (by decide)
theorem C2w6 (h : ob sk L 2 a) (v : Option Nat) : xpN (cH sk L τ) 2 6 a v = some (cH sk L (tN τ a 6 v)) := c_pN h rfl (by decide) v
theorem C2v6 (h : ob sk L 2 a) (v : Nat) : xpR (cH sk L τ) 2 6 a v = some (cH sk L (tN τ a 6 (some v))) := c_pN h rfl (by decide) (some v)
theorem C2r7 (h : ob sk L 2 a) {q : Nat} (hq : fN τ a 7 = some q) : xgR (cH sk L τ) 2 7 a = some q := c_gR h rfl (by decide) hq
theorem C2n7 (h : ob sk L 2 a) : xgN (cH sk L τ) 2 7 a = some (fN τ a 7) := c_gN h rfl (by decide)
theorem C2w7 (h : ob sk L 2 a) (v : Option Nat) : xpN (cH sk L τ) 2 7 a v = some (cH sk L (tN τ a 7 v)) := c_pN h rfl (by decide) v
theorem C2v7 (h : ob sk L 2 a) (v : Nat) : xpR (cH sk L τ) 2 7 a v = some (cH sk L (tN τ a 7 (some v))) := c_pN h rfl (by decide) (some v)
theorem C2r8 (h : ob sk L 2 a) {q : Nat} (hq : fN τ a 8 = some q) : xgR (cH sk L τ) 2 8 a = some q := c_gR h rfl (by decide) hq
theorem C2n8 (h : ob sk L 2 a) : xgN (cH sk L τ) 2 8 a = some (fN τ a 8) := c_gN h rfl (by decide)
theorem C2w8 (h : ob sk L 2 a) (v : Option Nat) : xpN (cH sk L τ) 2 8 a v = some (cH sk L (tN τ a 8 v)) := c_pN h rfl (by decide) v
theorem C2v8 (h : ob sk L 2 a) (v : Nat) : xpR (cH sk L τ) 2 8 a v = some (cH sk L (tN τ a 8 (some v))) := c_pN h rfl (by decide) (some v)
theorem C2r9 (h : ob sk L 2 a) {q : Nat} (hq : fN τ a 9 = some q) : xgR (cH sk L τ) 2 9 a = some q := c_gR h rfl (by decide) hq
theorem C2n9 (h : ob sk L 2 a) : xgN (cH sk L τ) 2 9 a = some (fN τ a 9) := c_gN h rfl (by decide)
theorem C2w9 (h : ob sk L 2 a) (v : Option Nat) : xpN (cH sk L τ) 2 9 a v = some (cH sk L (tN τ a 9 v)) := c_pN h rfl (by decide) v
theorem C2v9 (h : ob sk L 2 a) (v : Nat) : xpR (cH sk L τ) 2 9 a v = some (cH sk L (tN τ a 9 (some v))) := c_pN h rfl (by decide) (some v)
theorem C2r10 (h : ob sk L 2 a) {q : Nat} (hq : fN τ a 10 = some q) : xgR (cH sk L τ) 2 10 a = some q := c_gR h rfl (by decide) hq
theorem C2n10 (h : ob sk L 2 a) : xgN (cH sk L τ) 2 10 a = some (fN τ a 10) := c_gN h rfl (by decide)
theorem C2w10 (h : ob sk L 2 a) (v : Option Nat) : xpN (cH sk L τ) 2 10 a v = some (cH sk L (tN τ a 10 v)) := c_pN h rfl (by decide) v
theorem C2v10 (h : ob sk L 2 a) (v : Nat) : xpR (cH sk L τ) 2 10 a v = some (cH sk L (tN τ a 10 (some v))) := c_pN h rfl (by decide) (some v)
theorem C2g11 (h : ob sk L 2 a) : xgI (cH sk L τ) 2 11 a = some (fI τ a 11) := c_gI h rfl (by decide)
theorem C2p11 (h : ob sk L 2 a) (v : Int32) : xpI (cH sk L τ) 2 11 a v = some (cH sk L (tI τ a 11 v)) := c_pI h rfl (by decide) v
theorem C2g12 (h : ob sk L 2 a) : xgI (cH sk L τ) 2 12 a = some (fI τ a 12) := c_gI h rfl (by decide)
theorem C2p12 (h : ob sk L 2 a) (v : Int32) : xpI (cH sk L τ) 2 12 a v = some (cH sk L (tI τ a 12 v)) := c_pI h rfl (by decide) v
theorem C2g13 (h : ob sk L 2 a) : xgJ (cH sk L τ) 2 13 a = some (fJ τ a 13) := c_gJ h rfl (by decide)
theorem C2p13 (h : ob sk L 2 a) (v : Int64) : xpJ (cH sk L τ) 2 13 a v = some (cH sk L (tJ τ a 13 v)) := c_pJ h rfl (by decide) v
theorem C2g14 (h : ob sk L 2 a) : xgJ (cH sk L τ) 2 14 a = some (fJ τ a 14) := c_gJ h rfl (by decide)
theorem C2p14 (h : ob sk L 2 a) (v : Int64) : xpJ (cH sk L τ) 2 14 a v = some (cH sk L (tJ τ a 14 v)) := c_pJ h rfl (by decide) v
theorem C2g15 (h : ob sk L 2 a) : xgJ (cH sk L τ) 2 15 a = some (fJ τ a 15) := c_gJ h rfl (by decide)
theorem C2p15 (h : ob sk L 2 a) (v : Int64) : xpJ (cH sk L τ) 2 15 a v = some (cH sk L (tJ τ a 15 v)) := c_pJ h rfl (by decide) v
theorem C2g16 (h : ob sk L 2 a) : xgJ (cH sk L τ) 2 16 a = some (fJ τ a 16) := c_gJ h rfl (by decide)
theorem C2p16 (h : ob sk L 2 a) (v : Int64) : xpJ (cH sk L τ) 2 16 a v = some (cH sk L (tJ τ a 16 v)) := c_pJ h rfl (by decide) v
theorem C2g17 (h : ob sk L 2 a) : xgJ (cH sk L τ) 2 17 a = some (fJ τ a 17) := c_gJ h rfl (by decide)
theorem C2p17 (h : ob sk L 2 a) (v : Int64) : xpJ (cH sk L τ) 2 17 a v = some (cH sk L (tJ τ a 17 v)) := c_pJ h rfl (by decide) v
theorem C2g18 (h : ob sk L 2 a) : xgJ (cH sk L τ) 2 18 a = some (fJ τ a 18) := c_gJ h rfl (by decide)
theorem C2p18 (h : ob sk L 2 a) (v : Int64) : xpJ (cH sk L τ) 2 18 a v = some (cH sk L (tJ τ a 18 v)) := c_pJ h rfl (by decide) v
theorem C3r0 (h : ob sk L 3 a) {q : Nat} (hq : fN τ a 0 = some q) : xgR (cH sk L τ) 3 0 a = some q := c_gR h rfl (by decide) hq
theorem C3n0 (h : ob sk L 3 a) : xgN (cH sk L τ) 3 0 a = some (fN τ a 0) := c_gN h rfl (by decide)
theorem C3w0 (h : ob sk L 3 a) (v : Option Nat) : xpN (cH sk L τ) 3 0 a v = some (cH sk L (tN τ a 0 v)) := c_pN h rfl (by decide) v
theorem C3v0 (h : ob sk L 3 a) (v : Nat) : xpR (cH sk L τ) 3 0 a v = some (cH sk L (tN τ a 0 (some v))) := c_pN h rfl (by decide) (some v)
theorem C3r1 (h : ob sk L 3 a) {q : Nat} (hq : fN τ a 1 = some q) : xgR (cH sk L τ) 3 1 a = some q := c_gR h rfl (by decide) hq
theorem C3n1 (h : ob sk L 3 a) : xgN (cH sk L τ) 3 1 a = some (fN τ a 1) := c_gN h rfl (by decide)
theorem C3w1 (h : ob sk L 3 a) (v : Option Nat) : xpN (cH sk L τ) 3 1 a v = some (cH sk L (tN τ a 1 v)) := c_pN h rfl (by decide) v
theorem C3v1 (h : ob sk L 3 a) (v : Nat) : xpR (cH sk L τ) 3 1 a v = some (cH sk L (tN τ a 1 (some v))) := c_pN h rfl (by decide) (some v)
theorem C3r2 (h : ob sk L 3 a) {q : Nat} (hq : fN τ a 2 = some q) : xgR (cH sk L τ) 3 2 a = some q := c_gR h rfl (by decide) hq
theorem C3n2 (h : ob sk L 3 a) : xgN (cH sk L τ) 3 2 a = some (fN τ a 2) := c_gN h rfl (by decide)
theorem C3w2 (h : ob sk L 3 a) (v : Option Nat) : xpN (cH sk L τ) 3 2 a v = some (cH sk L (tN τ a 2 v)) := c_pN h rfl (by decide) v
theorem C3v2 (h : ob sk L 3 a) (v : Nat) : xpR (cH sk L τ) 3 2 a v = some (cH sk L (tN τ a 2 (some v))) := c_pN h rfl (by decide) (some v)
theorem C3r3 (h : ob sk L 3 a) {q : Nat} (hq : fN τ a 3 = some q) : xgR (cH sk L τ) 3 3 a = some q := c_gR h rfl (by decide) hq
theorem C3n3 (h : ob sk L 3 a) : xgN (cH sk L τ) 3 3 a = some (fN τ a 3) := c_gN h rfl (by decide)
theorem C3w3 (h : ob sk L 3 a) (v : Option Nat) : xpN (cH sk L τ) 3 3 a v = some (cH sk L (tN τ a 3 v)) := c_pN h rfl (by decide) v
theorem C3v3 (h : ob sk L 3 a) (v : Nat) : xpR (cH sk L τ) 3 3 a v = some (cH sk L (tN τ a 3 (some v))) := c_pN h rfl (by decide) (some v)
theorem C3r4 (h : ob sk L 3 a) {q : Nat} (hq : fN τ a 4 = some q) : xgR (cH sk L τ) 3 4 a = some q := c_gR h rfl (by decide) hq
theorem C3n4 (h : ob sk L 3 a) : xgN (cH sk L τ) 3 4 a = some (fN τ a 4) := c_gN h rfl (by decide)
theorem C3w4 (h : ob sk L 3 a) (v : Option Nat) : xpN (cH sk L τ) 3 4 a v = some (cH sk L (tN τ a 4 v)) := c_pN h rfl (by decide) v
theorem C3v4 (h : ob sk L 3 a) (v : Nat) : xpR (cH sk L τ) 3 4 a v = some (cH sk L (tN τ a 4 (some v))) := c_pN h rfl (by decide) (some v)
theorem C3r5 (h : ob sk L 3 a) {q : Nat} (hq : fN τ a 5 = some q) : xgR (cH sk L τ) 3 5 a = some q := c_gR h rfl (by decide) hq
theorem C3n5 (h : ob sk L 3 a) : xgN (cH sk L τ) 3 5 a = some (fN τ a 5) := c_gN h rfl (by decide)
theorem C3w5 (h : ob sk L 3 a) (v : Option Nat) : xpN (cH sk L τ) 3 5 a v = some (cH sk L (tN τ a 5 v)) := c_pN h rfl (by decide) v
theorem C3v5 (h : ob sk L 3 a) (v : Nat) : xpR (cH sk L τ) 3 5 a v = some (cH sk L (tN τ a 5 (some v))) := c_pN h rfl (by decide) (some v)
theorem C3r6 (h : ob sk L 3 a) {q : Nat} (hq : fN τ a 6 = some q) : xgR (cH sk L τ) 3 6 a = some q := c_gR h rfl (by decide) hq
theorem C3n6 (h : ob sk L 3 a) : xgN (cH sk L τ) 3 6 a = some (fN τ a 6) := c_gN h rfl (by decide)
theorem C3w6 (h : ob sk L 3 a) (v : Option Nat) : xpN (cH sk L τ) 3 6 a v = some (cH sk L (tN τ a 6 v)) := c_pN h rfl (by decide) v
theorem C3v6 (h : ob sk L 3 a) (v : Nat) : xpR (cH sk L τ) 3 6 a v = some (cH sk L (tN τ a 6 (some v))) := c_pN h rfl (by decide) (some v)
theorem C3r7 (h : ob sk L 3 a) {q : Nat} (hq : fN τ a 7 = some q) : xgR (cH sk L τ) 3 7 a = some q := c_gR h rfl (by decide) hq
theorem C3n7 (h : ob sk L 3 a) : xgN (cH sk L τ) 3 7 a = some (fN τ a 7) := c_gN h rfl (by decide)
theorem C3w7 (h : ob sk L 3 a) (v : Option Nat) : xpN (cH sk L τ) 3 7 a v = some (cH sk L (tN τ a 7 v)) := c_pN h rfl (by decide) v
theorem C3v7 (h : ob sk L 3 a) (v : Nat) : xpR (cH sk L τ) 3 7 a v = some (cH sk L (tN τ a 7 (some v))) := c_pN h rfl (by decide) (some v)
theorem C3r8 (h : ob sk L 3 a) {q : Nat} (hq : fN τ a 8 = some q) : xgR (cH sk L τ) 3 8 a = some q := c_gR h rfl (by decide) hq
theorem C3n8 (h : ob sk L 3 a) : xgN (cH sk L τ) 3 8 a = some (fN τ a 8) := c_gN h rfl (by decide)
theorem C3w8 (h : ob sk L 3 a) (v : Option Nat) : xpN (cH sk L τ) 3 8 a v = some (cH sk L (tN τ a 8 v)) := c_pN h rfl (by decide) v
theorem C3v8 (h : ob sk L 3 a) (v : Nat) : xpR (cH sk L τ) 3 8 a v = some (cH sk L (tN τ a 8 (some v))) := c_pN h rfl (by decide) (some v)
theorem C3r9 (h : ob sk L 3 a) {q : Nat} (hq : fN τ a 9 = some q) : xgR (cH sk L τ) 3 9 a = some q := c_gR h rfl (by decide) hq
theorem C3n9 (h : ob sk L 3 a) : xgN (cH sk L τ) 3 9 a = some (fN τ a 9) := c_gN h rfl (by decide)
theorem C3w9 (h : ob sk L 3 a) (v : Option Nat) : xpN (cH sk L τ) 3 9 a v = some (cH sk L (tN τ a 9 v)) := c_pN h rfl (by decide) v
theorem C3v9 (h : ob sk L 3 a) (v : Nat) : xpR (cH sk L τ) 3 9 a v = some (cH sk L (tN τ a 9 (some v))) := c_pN h rfl (by decide) (some v)
theorem C3r10 (h : ob sk L 3 a) {q : Nat} (hq : fN τ a 10 = some q) : xgR (cH sk L τ) 3 10 a = some q := c_gR h rfl (by decide) hq
theorem C3n10 (h : ob sk L 3 a) : xgN (cH sk L τ) 3 10 a = some (fN τ a 10) := c_gN h rfl (by decide)
theorem C3w10 (h : ob sk L 3 a) (v : Option Nat) : xpN (cH sk L τ) 3 10 a v = some (cH sk L (tN τ a 10 v)) := c_pN h rfl (by decide) v
theorem C3v10 (h : ob sk L 3 a) (v : Nat) : xpR (cH sk L τ) 3 10 a v = some (cH sk L (tN τ a 10 (some v))) := c_pN h rfl (by decide) (some v)
theorem C3r11 (h : ob sk L 3 a) {q : Nat} (hq : fN τ a 11 = some q) : xgR (cH sk L τ) 3 11 a = some q := c_gR h rfl (by decide) hq
theorem C3n11 (h : ob sk L 3 a) : xgN (cH sk L τ) 3 11 a = some (fN τ a 11) := c_gN h rfl (by decide)
theorem C3w11 (h : ob sk L 3 a) (v : Option Nat) : xpN (cH sk L τ) 3 11 a v = some (cH sk L (tN τ a 11 v)) := c_pN h rfl (by decide) v
theorem C3v11 (h : ob sk L 3 a) (v : Nat) : xpR (cH sk L τ) 3 11 a v = some (cH sk L (tN τ a 11 (some v))) := c_pN h rfl (by decide) (some v)
theorem C3r12 (h : ob sk L 3 a) {q : Nat} (hq : fN τ a 12 = some q) : xgR (cH sk L τ) 3 12 a = some q := c_gR h rfl (by decide) hq
theorem C3n12 (h : ob sk L 3 a) : xgN (cH sk L τ) 3 12 a = some (fN τ a 12) := c_gN h rfl (by decide)
theorem C3w12 (h : ob sk L 3 a) (v : Option Nat) : xpN (cH sk L τ) 3 12 a v = some (cH sk L (tN τ a 12 v)) := c_pN h rfl (by decide) v
theorem C3v12 (h : ob sk L 3 a) (v : Nat) : xpR (cH sk L τ) 3 12 a v = some (cH sk L (tN τ a 12 (some v))) := c_pN h rfl (by decide) (some v)
theorem C3r13 (h : ob sk L 3 a) {q : Nat} (hq : fN τ a 13 = some q) : xgR (cH sk L τ) 3 13 a = some q := c_gR h rfl (by decide) hq
theorem C3n13 (h : ob sk L 3 a) : xgN (cH sk L τ) 3 13 a = some (fN τ a 13) := c_gN h rfl (by decide)
theorem C3w13 (h : ob sk L 3 a) (v : Option Nat) : xpN (cH sk L τ) 3 13 a v = some (cH sk L (tN τ a 13 v)) := c_pN h rfl (by decide) v
theorem C3v13 (h : ob sk L 3 a) (v : Nat) : xpR (cH sk L τ) 3 13 a v = some (cH sk L (tN τ a 13 (some v))) := c_pN h rfl (by decide) (some v)
theorem C3g14 (h : ob sk L 3 a) : xgI (cH sk L τ) 3 14 a = some (fI τ a 14) := c_gI h rfl (by decide)
theorem C3p14 (h : ob sk L 3 a) (v : Int32) : xpI (cH sk L τ) 3 14 a v = some (cH sk L (tI τ a 14 v)) := c_pI h rfl (by decide) v
theorem C3g15 (h : ob sk L 3 a) : xgI (cH sk L τ) 3 15 a = some (fI τ a 15) := c_gI h rfl (by decide)
theorem C3p15 (h : ob sk L 3 a) (v : Int32) : xpI (cH sk L τ) 3 15 a v = some (cH sk L (tI τ a 15 v)) := c_pI h rfl (by decide) v
theorem C3g16 (h : ob sk L 3 a) : xgI (cH sk L τ) 3 16 a = some (fI τ a 16) := c_gI h rfl (by decide)
theorem C3p16 (h : ob sk L 3 a) (v : Int32) : xpI (cH sk L τ) 3 16 a v = some (cH sk L (tI τ a 16 v)) := c_pI h rfl (by decide) v
theorem C3g17 (h : ob sk L 3 a) : xgI (cH sk L τ) 3 17 a = some (fI τ a 17) := c_gI h rfl (by decide)
theorem C3p17 (h : ob sk L 3 a) (v : Int32) : xpI (cH sk L τ) 3 17 a v = some (cH sk L (tI τ a 17 v)) := c_pI h rfl (by decide) v
theorem C3g18 (h : ob sk L 3 a) : xgI (cH sk L τ) 3 18 a = some (fI τ a 18) := c_gI h rfl (by decide)
theorem C3p18 (h : ob sk L 3 a) (v : Int32) : xpI (cH sk L τ) 3 18 a v = some (cH sk L (tI τ a 18 v)) := c_pI h rfl (by decide) v
theorem C3g19 (h : ob sk L 3 a) : xgJ (cH sk L τ) 3 19 a = some (fJ τ a 19) := c_gJ h rfl (by decide)
theorem C3p19 (h : ob sk L 3 a) (v : Int64) : xpJ (cH sk L τ) 3 19 a v = some (cH sk L (tJ τ a 19 v)) := c_pJ h rfl (by decide) v
theorem C4r0 (h : ob sk L 4 a) {q : Nat} (hq : fN τ a 0 = some q) : xgR (cH sk L τ) 4 0 a = some q := c_gR h rfl (by decide) hq
theorem C4n0 (h : ob sk L 4 a) : xgN (cH sk L τ) 4 0 a = some (fN τ a 0) := c_gN h rfl (by decide)
theorem C4w0 (h : ob sk L 4 a) (v : Option Nat) : xpN (cH sk L τ) 4 0 a v = some (cH sk L (tN τ a 0 v)) := c_pN h rfl (by decide) v
theorem C4v0 (h : ob sk L 4 a) (v : Nat) : xpR (cH sk L τ) 4 0 a v = some (cH sk L (tN τ a 0 (some v))) := c_pN h rfl (by decide) (some v)
theorem C4r1 (h : ob sk L 4 a) {q : Nat} (hq : fN τ a 1 = some q) : xgR (cH sk L τ) 4 1 a = some q := c_gR h rfl (by decide) hq
theorem C4n1 (h : ob sk L 4 a) : xgN (cH sk L τ) 4 1 a = some (fN τ a 1) := c_gN h rfl (by decide)
theorem C4w1 (h : ob sk L 4 a) (v : Option Nat) : xpN (cH sk L τ) 4 1 a v = some (cH sk L (tN τ a 1 v)) := c_pN h rfl (by decide) v
theorem C4v1 (h : ob sk L 4 a) (v : Nat) : xpR (cH sk L τ) 4 1 a v = some (cH sk L (tN τ a 1 (some v))) := c_pN h rfl (by decide) (some v)
theorem C4r2 (h : ob sk L 4 a) {q : Nat} (hq : fN τ a 2 = some q) : xgR (cH sk L τ) 4 2 a = some q := c_gR h rfl (by decide) hq
theorem C4n2 (h : ob sk L 4 a) : xgN (cH sk L τ) 4 2 a = some (fN τ a 2) := c_gN h rfl (by decide)
theorem C4w2 (h : ob sk L 4 a) (v : Option Nat) : xpN (cH sk L τ) 4 2 a v = some (cH sk L (tN τ a 2 v)) := c_pN h rfl (by decide) v
theorem C4v2 (h : ob sk L 4 a) (v : Nat) : xpR (cH sk L τ) 4 2 a v = some (cH sk L (tN τ a 2 (some v))) := c_pN h rfl (by decide) (some v)
theorem C4r3 (h : ob sk L 4 a) {q : Nat} (hq : fN τ a 3 = some q) : xgR (cH sk L τ) 4 3 a = some q := c_gR h rfl (by decide) hq
theorem C4n3 (h : ob sk L 4 a) : xgN (cH sk L τ) 4 3 a = some (fN τ a 3) := c_gN h rfl (by decide)
theorem C4w3 (h : ob sk L 4 a) (v : Option Nat) : xpN (cH sk L τ) 4 3 a v = some (cH sk L (tN τ a 3 v)) := c_pN h rfl (by decide) v
theorem C4v3 (h : ob sk L 4 a) (v : Nat) : xpR (cH sk L τ) 4 3 a v = some (cH sk L (tN τ a 3 (some v))) := c_pN h rfl (by decide) (some v)
theorem C4r4 (h : ob sk L 4 a) {q : Nat} (hq : fN τ a 4 = some q) : xgR (cH sk L τ) 4 4 a = some q := c_gR h rfl (by decide) hq
theorem C4n4 (h : ob sk L 4 a) : xgN (cH sk L τ) 4 4 a = some (fN τ a 4) := c_gN h rfl (by decide)
theorem C4w4 (h : ob sk L 4 a) (v : Option Nat) : xpN (cH sk L τ) 4 4 a v = some (cH sk L (tN τ a 4 v)) := c_pN h rfl (by decide) v
theorem C4v4 (h : ob sk L 4 a) (v : Nat) : xpR (cH sk L τ) 4 4 a v = some (cH sk L (tN τ a 4 (some v))) := c_pN h rfl (by decide) (some v)
theorem C4r5 (h : ob sk L 4 a) {q : Nat} (hq : fN τ a 5 = some q) : xgR (cH sk L τ) 4 5 a = some q := c_gR h rfl (by decide) hq
theorem C4n5 (h : ob sk L 4 a) : xgN (cH sk L τ) 4 5 a = some (fN τ a 5) := c_gN h rfl (by decide)
theorem C4w5 (h : ob sk L 4 a) (v : Option Nat) : xpN (cH sk L τ) 4 5 a v = some (cH sk L (tN τ a 5 v)) := c_pN h rfl (by decide) v
theorem C4v5 (h : ob sk L 4 a) (v : Nat) : xpR (cH sk L τ) 4 5 a v = some (cH sk L (tN τ a 5 (some v))) := c_pN h rfl (by decide) (some v)
theorem C4g6 (h : ob sk L 4 a) : xgI (cH sk L τ) 4 6 a = some (fI τ a 6) := c_gI h rfl (by decide)
theorem C4p6 (h : ob sk L 4 a) (v : Int32) : xpI (cH sk L τ) 4 6 a v = some (cH sk L (tI τ a 6 v)) := c_pI h rfl (by decide) v
theorem C4g7 (h : ob sk L 4 a) : xgJ (cH sk L τ) 4 7 a = some (fJ τ a 7) := c_gJ h rfl (by decide)
theorem C4p7 (h : ob sk L 4 a) (v : Int64) : xpJ (cH sk L τ) 4 7 a v = some (cH sk L (tJ τ a 7 v)) := c_pJ h rfl (by decide) v
theorem C4g8 (h : ob sk L 4 a) : xgI (cH sk L τ) 4 8 a = some (fI τ a 8) := c_gI h rfl (by decide)
theorem C4p8 (h : ob sk L 4 a) (v : Int32) : xpI (cH sk L τ) 4 8 a v = some (cH sk L (tI τ a 8 v)) := c_pI h rfl (by decide) v
theorem C4g9 (h : ob sk L 4 a) : xgI (cH sk L τ) 4 9 a = some (fI τ a 9) := c_gI h rfl (by decide)
theorem C4p9 (h : ob sk L 4 a) (v : Int32) : xpI (cH sk L τ) 4 9 a v = some (cH sk L (tI τ a 9 v)) := c_pI h rfl (by decide) v
theorem C4g10 (h : ob sk L 4 a) : xgI (cH sk L τ) 4 10 a = some (fI τ a 10) := c_gI h rfl (by decide)
theorem C4p10 (h : ob sk L 4 a) (v : Int32) : xpI (cH sk L τ) 4 10 a v = some (cH sk L (tI τ a 10 v)) := c_pI h rfl (by decide) v
theorem C4g11 (h : ob sk L 4 a) : xgI (cH sk L τ) 4 11 a = some (fI τ a 11) := c_gI h rfl (by decide)
theorem C4p11 (h : ob sk L 4 a) (v : Int32) : xpI (cH sk L τ) 4 11 a v = some (cH sk L (tI τ a 11 v)) := c_pI h rfl (by decide) v
theorem C4g12 (h : ob sk L 4 a) : xgI (cH sk L τ) 4 12 a = some (fI τ a 12) := c_gI h rfl (by decide)
theorem C4p12 (h : ob sk L 4 a) (v : Int32) : xpI (cH sk L τ) 4 12 a v = some (cH sk L (tI τ a 12 v)) := c_pI h rfl (by decide) v
theorem C5g0 (h : ob sk L 5 a) : xgJ (cH sk L τ) 5 0 a = some (fJ τ a 0) := c_gJ h rfl (by decide)
theorem C5p0 (h : ob sk L 5 a) (v : Int64) : xpJ (cH sk L τ) 5 0 a v = some (cH sk L (tJ τ a 0 v)) := c_pJ h rfl (by decide) v
theorem C5g1 (h : ob sk L 5 a) : xgJ (cH sk L τ) 5 1 a = some (fJ τ a 1) := c_gJ h rfl (by decide)
theorem C5p1 (h : ob sk L 5 a) (v : Int64) : xpJ (cH sk L τ) 5 1 a v = some (cH sk L (tJ τ a 1 v)) := c_pJ h rfl (by decide) v
theorem C5g2 (h : ob sk L 5 a) : xgJ (cH sk L τ) 5 2 a = some (fJ τ a 2) := c_gJ h rfl (by decide)
theorem C5p2 (h : ob sk L 5 a) (v : Int64) : xpJ (cH sk L τ) 5 2 a v = some (cH sk L (tJ τ a 2 v)) := c_pJ h rfl (by decide) v
theorem C5g3 (h : ob sk L 5 a) : xgI (cH sk L τ) 5 3 a = some (fI τ a 3) := c_gI h rfl (by decide)
theorem C5p3 (h : ob sk L 5 a) (v : Int32) : xpI (cH sk L τ) 5 3 a v = some (cH sk L (tI τ a 3 v)) := c_pI h rfl (by decide) v
theorem C5g4 (h : ob sk L 5 a) : xgI (cH sk L τ) 5 4 a = some (fI τ a 4) := c_gI h rfl (by decide)
theorem C5p4 (h : ob sk L 5 a) (v : Int32) : xpI (cH sk L τ) 5 4 a v = some (cH sk L (tI τ a 4 v)) := c_pI h rfl (by decide) v
theorem C5g5 (h : ob sk L 5 a) : xgI (cH sk L τ) 5 5 a = some (fI τ a 5) := c_gI h rfl (by decide)
theorem C5p5 (h : ob sk L 5 a) (v : Int32) : xpI (cH sk L τ) 5 5 a v = some (cH sk L (tI τ a 5 v)) := c_pI h rfl (by decide) v
theorem C5r6 (h : ob sk L 5 a) {q : Nat} (hq : fN τ a 6 = some q) : xgR (cH sk L τ) 5 6 a = some q := c_gR h rfl (by decide) hq
theorem C5n6 (h : ob sk L 5 a) : xgN (cH sk L τ) 5 6 a = some (fN τ a 6) := c_gN h rfl (by decide)
theorem C5w6 (h : ob sk L 5 a) (v : Option Nat) : xpN (cH sk L τ) 5 6 a v = some (cH sk L (tN τ a 6 v)) := c_pN h rfl (by decide) v
theorem C5v6 (h : ob sk L 5 a) (v : Nat) : xpR (cH sk L τ) 5 6 a v = some (cH sk L (tN τ a 6 (some v))) := c_pN h rfl (by decide) (some v)
theorem C5g7 (h : ob sk L 5 a) : xgJ (cH sk L τ) 5 7 a = some (fJ τ a 7) := c_gJ h rfl (by decide)
theorem C5p7 (h : ob sk L 5 a) (v : Int64) : xpJ (cH sk L τ) 5 7 a v = some (cH sk L (tJ τ a 7 v)) := c_pJ h rfl (by decide) v
theorem C5g8 (h : ob sk L 5 a) : xgJ (cH sk L τ) 5 8 a = some (fJ τ a 8) := c_gJ h rfl (by decide)
theorem C5p8 (h : ob sk L 5 a) (v : Int64) : xpJ (cH sk L τ) 5 8 a v = some (cH sk L (tJ τ a 8 v)) := c_pJ h rfl (by decide) v
theorem C5g9 (h : ob sk L 5 a) : xgI (cH sk L τ) 5 9 a = some (fI τ a 9) := c_gI h rfl (by decide)
theorem C5p9 (h : ob sk L 5 a) (v : Int32) : xpI (cH sk L τ) 5 9 a v = some (cH sk L (tI τ a 9 v)) := c_pI h rfl (by decide) v
theorem C5g10 (h : ob sk L 5 a) : xgI (cH sk L τ) 5 10 a = some (fI τ a 10) := c_gI h rfl (by decide)
theorem C5z10 (h : ob sk L 5 a) (v : Bool) : xpZ (cH sk L τ) 5 10 a (bI v) = some (cH sk L (tI τ a 10 (bI v))) := c_pZ h rfl (by decide) v
theorem C5g11 (h : ob sk L 5 a) : xgI (cH sk L τ) 5 11 a = some (fI τ a 11) := c_gI h rfl (by decide)
theorem C5z11 (h : ob sk L 5 a) (v : Bool) : xpZ (cH sk L τ) 5 11 a (bI v) = some (cH sk L (tI τ a 11 (bI v))) := c_pZ h rfl (by decide) v
theorem C5g12 (h : ob sk L 5 a) : xgI (cH sk L τ) 5 12 a = some (fI τ a 12) := c_gI h rfl (by decide)
theorem C5z12 (h : ob sk L 5 a) (v : Bool) : xpZ (cH sk L τ) 5 12 a (bI v) = some (cH sk L (tI τ a 12 (bI v))) := c_pZ h rfl (by decide) v
theorem C5g13 (h : ob sk L 5 a) : xgI (cH sk L τ) 5 13 a = some (fI τ a 13) := c_gI h rfl (by decide)
theorem C5z13 (h : ob sk L 5 a) (v : Bool) : xpZ (cH sk L τ) 5 13 a (bI v) = some (cH sk L (tI τ a 13 (bI v))) := c_pZ h rfl (by decide) v
theorem C5g14 (h : ob sk L 5 a) : xgJ (cH sk L τ) 5 14 a = some (fJ τ a 14) := c_gJ h rfl (by decide)
theorem C5p14 (h : ob sk L 5 a) (v : Int64) : xpJ (cH sk L τ) 5 14 a v = some (cH sk L (tJ τ a 14 v)) := c_pJ h rfl (by decide) v
theorem C5g15 (h : ob sk L 5 a) : xgI (cH sk L τ) 5 15 a = some (fI τ a 15) := c_gI h rfl (by decide)
theorem C5p15 (h : ob sk L 5 a) (v : Int32) : xpI (cH sk L τ) 5 15 a v = some (cH sk L (tI τ a 15 v)) := c_pI h rfl (by decide) v
theorem C5g16 (h : ob sk L 5 a) : xgI (cH sk L τ) 5 16 a = some (fI τ a 16) := c_gI h rfl (by decide)
theorem C5p16 (h : ob sk L 5 a) (v : Int32) : xpI (cH sk L τ) 5 16 a v = some (cH sk L (tI τ a 16 v)) := c_pI h rfl (by decide) v
theorem C5g17 (h : ob sk L 5 a) : xgI (cH sk L τ) 5 17 a = some (fI τ a 17) := c_gI h rfl (by decide)
theorem C5p17 (h : ob sk L 5 a) (v : Int32) : xpI (cH sk L τ) 5 17 a v = some (cH sk L (tI τ a 17 v)) := c_pI h rfl (by decide) v
theorem C6r0 (h : ob sk L 6 a) {q : Nat} (hq : fN τ a 0 = some q) : xgR (cH sk L τ) 6 0 a = some q := c_gR h rfl (by decide) hq
theorem C6n0 (h : ob sk L 6 a) : xgN (cH sk L τ) 6 0 a = some (fN τ a 0) := c_gN h rfl (by decide)
theorem C6w0 (h : ob sk L 6 a) (v : Option Nat) : xpN (cH sk L τ) 6 0 a v = some (cH sk L (tN τ a 0 v)) := c_pN h rfl (by decide) v
theorem C6v0 (h : ob sk L 6 a) (v : Nat) : xpR (cH sk L τ) 6 0 a v = some (cH sk L (tN τ a 0 (some v))) := c_pN h rfl (by decide) (some v)
theorem C6r1 (h : ob sk L 6 a) {q : Nat} (hq : fN τ a 1 = some q) : xgR (cH sk L τ) 6 1 a = some q := c_gR h rfl (by decide) hq
theorem C6n1 (h : ob sk L 6 a) : xgN (cH sk L τ) 6 1 a = some (fN τ a 1) := c_gN h rfl (by decide)
theorem C6w1 (h : ob sk L 6 a) (v : Option Nat) : xpN (cH sk L τ) 6 1 a v = some (cH sk L (tN τ a 1 v)) := c_pN h rfl (by decide) v
theorem C6v1 (h : ob sk L 6 a) (v : Nat) : xpR (cH sk L τ) 6 1 a v = some (cH sk L (tN τ a 1 (some v))) := c_pN h rfl (by decide) (some v)
theorem C6g2 (h : ob sk L 6 a) : xgI (cH sk L τ) 6 2 a = some (fI τ a 2) := c_gI h rfl (by decide)
theorem C6p2 (h : ob sk L 6 a) (v : Int32) : xpI (cH sk L τ) 6 2 a v = some (cH sk L (tI τ a 2 v)) := c_pI h rfl (by decide) v
theorem C7r0 (h : ob sk L 7 a) {q : Nat} (hq : fN τ a 0 = some q) : xgR (cH sk L τ) 7 0 a = some q := c_gR h rfl (by decide) hq
theorem C7n0 (h : ob sk L 7 a) : xgN (cH sk L τ) 7 0 a = some (fN τ a 0) := c_gN h rfl (by decide)
theorem C7w0 (h : ob sk L 7 a) (v : Option Nat) : xpN (cH sk L τ) 7 0 a v = some (cH sk L (tN τ a 0 v)) := c_pN h rfl (by decide) v
theorem C7v0 (h : ob sk L 7 a) (v : Nat) : xpR (cH sk L τ) 7 0 a v = some (cH sk L (tN τ a 0 (some v))) := c_pN h rfl (by decide) (some v)
theorem C7g1 (h : ob sk L 7 a) : xgI (cH sk L τ) 7 1 a = some (fI τ a 1) := c_gI h rfl (by decide)
theorem C7p1 (h : ob sk L 7 a) (v : Int32) : xpI (cH sk L τ) 7 1 a v = some (cH sk L (tI τ a 1 v)) := c_pI h rfl (by decide) v
theorem C7g2 (h : ob sk L 7 a) : xgI (cH sk L τ) 7 2 a = some (fI τ a 2) := c_gI h rfl (by decide)
theorem C7p2 (h : ob sk L 7 a) (v : Int32) : xpI (cH sk L τ) 7 2 a v = some (cH sk L (tI τ a 2 v)) := c_pI h rfl (by decide) v
theorem C7r3 (h : ob sk L 7 a) {q : Nat} (hq : fN τ a 3 = some q) : xgR (cH sk L τ) 7 3 a = some q := c_gR h rfl (by decide) hq
theorem C7n3 (h : ob sk L 7 a) : xgN (cH sk L τ) 7 3 a = some (fN τ a 3) := c_gN h rfl (by decide)
theorem C7w3 (h : ob sk L 7 a) (v : Option Nat) : xpN (cH sk L τ) 7 3 a v = some (cH sk L (tN τ a 3 v)) := c_pN h rfl (by decide) v
theorem C7v3 (h : ob sk L 7 a) (v : Nat) : xpR (cH sk L τ) 7 3 a v = some (cH sk L (tN τ a 3 (some v))) := c_pN h rfl (by decide) (some v)
theorem C7g4 (h : ob sk L 7 a) : xgI (cH sk L τ) 7 4 a = some (fI τ a 4) := c_gI h rfl (by decide)
theorem C7p4 (h : ob sk L 7 a) (v : Int32) : xpI (cH sk L τ) 7 4 a v = some (cH sk L (tI τ a 4 v)) := c_pI h rfl (by decide) v
theorem C7g5 (h : ob sk L 7 a) : xgI (cH sk L τ) 7 5 a = some (fI τ a 5) := c_gI h rfl (by decide)
theorem C7p5 (h : ob sk L 7 a) (v : Int32) : xpI (cH sk L τ) 7 5 a v = some (cH sk L (tI τ a 5 v)) := c_pI h rfl (by decide) v
theorem C7g6 (h : ob sk L 7 a) : xgI (cH sk L τ) 7 6 a = some (fI τ a 6) := c_gI h rfl (by decide)
theorem C7p6 (h : ob sk L 7 a) (v : Int32) : xpI (cH sk L τ) 7 6 a v = some (cH sk L (tI τ a 6 v)) := c_pI h rfl (by decide) v
theorem C7g7 (h : ob sk L 7 a) : xgI (cH sk L τ) 7 7 a = some (fI τ a 7) := c_gI h rfl (by decide)
theorem C7p7 (h : ob sk L 7 a) (v : Int32) : xpI (cH sk L τ) 7 7 a v = some (cH sk L (tI τ a 7 v)) := c_pI h rfl (by decide) v
theorem C7g8 (h : ob sk L 7 a) : xgI (cH sk L τ) 7 8 a = some (fI τ a 8) := c_gI h rfl (by decide)
theorem C7p8 (h : ob sk L 7 a) (v : Int32) : xpI (cH sk L τ) 7 8 a v = some (cH sk L (tI τ a 8 v)) := c_pI h rfl (by decide) v
theorem C7g9 (h : ob sk L 7 a) : xgI (cH sk L τ) 7 9 a = some (fI τ a 9) := c_gI h rfl (by decide)
theorem C7p9 (h : ob sk L 7 a) (v : Int32) : xpI (cH sk L τ) 7 9 a v = some (cH sk L (tI τ a 9 v)) := c_pI h rfl (by decide) v
theorem C7g10 (h : ob sk L 7 a) : xgI (cH sk L τ) 7 10 a = some (fI τ a 10) := c_gI h rfl (by decide)
theorem C7p10 (h : ob sk L 7 a) (v : Int32) : xpI (cH sk L τ) 7 10 a v = some (cH sk L (tI τ a 10 v)) := c_pI h rfl (by decide) v
theorem C7g11 (h : ob sk L 7 a) : xgI (cH sk L τ) 7 11 a = some (fI τ a 11) := c_gI h rfl (by decide)
theorem C7p11 (h : ob sk L 7 a) (v : Int32) : xpI (cH sk L τ) 7 11 a v = some (cH sk L (tI τ a 11 v)) := c_pI h rfl (by decide) v
theorem C7g12 (h : ob sk L 7 a) : xgI (cH sk L τ) 7 12 a = some (fI τ a 12) := c_gI h rfl (by decide)
theorem C7p12 (h : ob sk L 7 a) (v : Int32) : xpI (cH sk L τ) 7 12 a v = some (cH sk L (tI τ a 12 v)) := c_pI h rfl (by decide) v
theorem C7g13 (h : ob sk L 7 a) : xgI (cH sk L τ) 7 13 a = some (fI τ a 13) := c_gI h rfl (by decide)
theorem C7p13 (h : ob sk L 7 a) (v : Int32) : xpI (cH sk L τ) 7 13 a v = some (cH sk L (tI τ a 13 v)) := c_pI h rfl (by decide) v
theorem C7g14 (h : ob sk L 7 a) : xgI (cH sk L τ) 7 14 a = some (fI τ a 14) := c_gI h rfl (by decide)
theorem C7p14 (h : ob sk L 7 a) (v : Int32) : xpI (cH sk L τ) 7 14 a v = some (cH sk L (tI τ a 14 v)) := c_pI h rfl (by decide) v
theorem C7g15 (h : ob sk L 7 a) : xgI (cH sk L τ) 7 15 a = some (fI τ a 15) := c_gI h rfl (by decide)
theorem C7z15 (h : ob sk L 7 a) (v : Bool) : xpZ (cH sk L τ) 7 15 a (bI v) = some (cH sk L (tI τ a 15 (bI v))) := c_pZ h rfl (by decide) v
theorem C7g16 (h : ob sk L 7 a) : xgI (cH sk L τ) 7 16 a = some (fI τ a 16) := c_gI h rfl (by decide)
theorem C7p16 (h : ob sk L 7 a) (v : Int32) : xpI (cH sk L τ) 7 16 a v = some (cH sk L (tI τ a 16 v)) := c_pI h rfl (by decide) v
theorem C8g0 (h : ob sk L 8 a) : xgI (cH sk L τ) 8 0 a = some (fI τ a 0) := c_gI h rfl (by decide)
theorem C8p0 (h : ob sk L 8 a) (v : Int32) : xpI (cH sk L τ) 8 0 a v = some (cH sk L (tI τ a 0 v)) := c_pI h rfl (by decide) v
theorem C8g1 (h : ob sk L 8 a) : xgI (cH sk L τ) 8 1 a = some (fI τ a 1) := c_gI h rfl (by decide)
theorem C8p1 (h : ob sk L 8 a) (v : Int32) : xpI (cH sk L τ) 8 1 a v = some (cH sk L (tI τ a 1 v)) := c_pI h rfl (by decide) v
theorem C8g2 (h : ob sk L 8 a) : xgI (cH sk L τ) 8 2 a = some (fI τ a 2) := c_gI h rfl (by decide)
theorem C8p2 (h : ob sk L 8 a) (v : Int32) : xpI (cH sk L τ) 8 2 a v = some (cH sk L (tI τ a 2 v)) := c_pI h rfl (by decide) v
theorem C8g3 (h : ob sk L 8 a) : xgI (cH sk L τ) 8 3 a = some (fI τ a 3) := c_gI h rfl (by decide)
theorem C8p3 (h : ob sk L 8 a) (v : Int32) : xpI (cH sk L τ) 8 3 a v = some (cH sk L (tI τ a 3 v)) := c_pI h rfl (by decide) v
theorem C8g4 (h : ob sk L 8 a) : xgI (cH sk L τ) 8 4 a = some (fI τ a 4) := c_gI h rfl (by decide)
theorem C8p4 (h : ob sk L 8 a) (v : Int32) : xpI (cH sk L τ) 8 4 a v = some (cH sk L (tI τ a 4 v)) := c_pI h rfl (by decide) v
theorem C8g5 (h : ob sk L 8 a) : xgI (cH sk L τ) 8 5 a = some (fI τ a 5) := c_gI h rfl (by decide)
theorem C8p5 (h : ob sk L 8 a) (v : Int32) : xpI (cH sk L τ) 8 5 a v = some (cH sk L (tI τ a 5 v)) := c_pI h rfl (by decide) v
theorem C8g6 (h : ob sk L 8 a) : xgI (cH sk L τ) 8 6 a = some (fI τ a 6) := c_gI h rfl (by decide)
theorem C8p6 (h : ob sk L 8 a) (v : Int32) : xpI (cH sk L τ) 8 6 a v = some (cH sk L (tI τ a 6 v)) := c_pI h rfl (by decide) v
theorem C8g7 (h : ob sk L 8 a) : xgI (cH sk L τ) 8 7 a = some (fI τ a 7) := c_gI h rfl (by decide)
theorem C8p7 (h : ob sk L 8 a) (v : Int32) : xpI (cH sk L τ) 8 7 a v = some (cH sk L (tI τ a 7 v)) := c_pI h rfl (by decide) v
theorem C8g8 (h : ob sk L 8 a) : xgI (cH sk L τ) 8 8 a = some (fI τ a 8) := c_gI h rfl (by decide)
theorem C8p8 (h : ob sk L 8 a) (v : Int32) : xpI (cH sk L τ) 8 8 a v = some (cH sk L (tI τ a 8 v)) := c_pI h rfl (by decide) v
theorem C8g9 (h : ob sk L 8 a) : xgI (cH sk L τ) 8 9 a = some (fI τ a 9) := c_gI h rfl (by decide)
theorem C8z9 (h : ob sk L 8 a) (v : Bool) : xpZ (cH sk L τ) 8 9 a (bI v) = some (cH sk L (tI τ a 9 (bI v))) := c_pZ h rfl (by decide) v
theorem C8g10 (h : ob sk L 8 a) : xgI (cH sk L τ) 8 10 a = some (fI τ a 10) := c_gI h rfl (by decide)
theorem C8z10 (h : ob sk L 8 a) (v : Bool) : xpZ (cH sk L τ) 8 10 a (bI v) = some (cH sk L (tI τ a 10 (bI v))) := c_pZ h rfl (by decide) v
theorem C8g11 (h : ob sk L 8 a) : xgJ (cH sk L τ) 8 11 a = some (fJ τ a 11) := c_gJ h rfl (by decide)
theorem C8p11 (h : ob sk L 8 a) (v : Int64) : xpJ (cH sk L τ) 8 11 a v = some (cH sk L (tJ τ a 11 v)) := c_pJ h rfl (by decide) v
theorem C8g12 (h : ob sk L 8 a) : xgI (cH sk L τ) 8 12 a = some (fI τ a 12) := c_gI h rfl (by decide)
theorem C8p12 (h : ob sk L 8 a) (v : Int32) : xpI (cH sk L τ) 8 12 a v = some (cH sk L (tI τ a 12 v)) := c_pI h rfl (by decide) v
theorem C9r0 (h : ob sk L 9 a) {q : Nat} (hq : fN τ a 0 = some q) : xgR (cH sk L τ) 9 0 a = some q := c_gR h rfl (by decide) hq
theorem C9n0 (h : ob sk L 9 a) : xgN (cH sk L τ) 9 0 a = some (fN τ a 0) := c_gN h rfl (by decide)
theorem C9w0 (h : ob sk L 9 a) (v : Option Nat) : xpN (cH sk L τ) 9 0 a v = some (cH sk L (tN τ a 0 v)) := c_pN h rfl (by decide) v
theorem C9v0 (h : ob sk L 9 a) (v : Nat) : xpR (cH sk L τ) 9 0 a v = some (cH sk L (tN τ a 0 (some v))) := c_pN h rfl (by decide) (some v)
theorem C9r1 (h : ob sk L 9 a) {q : Nat} (hq : fN τ a 1 = some q) : xgR (cH sk L τ) 9 1 a = some q := c_gR h rfl (by decide) hq
theorem C9n1 (h : ob sk L 9 a) : xgN (cH sk L τ) 9 1 a = some (fN τ a 1) := c_gN h rfl (by decide)
theorem C9w1 (h : ob sk L 9 a) (v : Option Nat) : xpN (cH sk L τ) 9 1 a v = some (cH sk L (tN τ a 1 v)) := c_pN h rfl (by decide) v
theorem C9v1 (h : ob sk L 9 a) (v : Nat) : xpR (cH sk L τ) 9 1 a v = some (cH sk L (tN τ a 1 (some v))) := c_pN h rfl (by decide) (some v)
theorem C9r2 (h : ob sk L 9 a) {q : Nat} (hq : fN τ a 2 = some q) : xgR (cH sk L τ) 9 2 a = some q := c_gR h rfl (by decide) hq
theorem C9n2 (h : ob sk L 9 a) : xgN (cH sk L τ) 9 2 a = some (fN τ a 2) := c_gN h rfl (by decide)
theorem C9w2 (h : ob sk L 9 a) (v : Option Nat) : xpN (cH sk L τ) 9 2 a v = some (cH sk L (tN τ a 2 v)) := c_pN h rfl (by decide) v
theorem C9v2 (h : ob sk L 9 a) (v : Nat) : xpR (cH sk L τ) 9 2 a v = some (cH sk L (tN τ a 2 (some v))) := c_pN h rfl (by decide) (some v)
theorem C9g3 (h : ob sk L 9 a) : xgI (cH sk L τ) 9 3 a = some (fI τ a 3) := c_gI h rfl (by decide)
theorem C9p3 (h : ob sk L 9 a) (v : Int32) : xpI (cH sk L τ) 9 3 a v = some (cH sk L (tI τ a 3 v)) := c_pI h rfl (by decide) v
theorem C9g4 (h : ob sk L 9 a) : xgI (cH sk L τ) 9 4 a = some (fI τ a 4) := c_gI h rfl (by decide)
theorem C9p4 (h : ob sk L 9 a) (v : Int32) : xpI (cH sk L τ) 9 4 a v = some (cH sk L (tI τ a 4 v)) := c_pI h rfl (by decide) v
theorem C9g5 (h : ob sk L 9 a) : xgJ (cH sk L τ) 9 5 a = some (fJ τ a 5) := c_gJ h rfl (by decide)
theorem C9p5 (h : ob sk L 9 a) (v : Int64) : xpJ (cH sk L τ) 9 5 a v = some (cH sk L (tJ τ a 5 v)) := c_pJ h rfl (by decide) v
theorem C10r0 (h : ob sk L 10 a) {q : Nat} (hq : fN τ a 0 = some q) : xgR (cH sk L τ) 10 0 a = some q := c_gR h rfl (by decide) hq
theorem C10n0 (h : ob sk L 10 a) : xgN (cH sk L τ) 10 0 a = some (fN τ a 0) := c_gN h rfl (by decide)
theorem C10w0 (h : ob sk L 10 a) (v : Option Nat) : xpN (cH sk L τ) 10 0 a v = some (cH sk L (tN τ a 0 v)) := c_pN h rfl (by decide) v
theorem C10v0 (h : ob sk L 10 a) (v : Nat) : xpR (cH sk L τ) 10 0 a v = some (cH sk L (tN τ a 0 (some v))) := c_pN h rfl (by decide) (some v)
theorem C10g1 (h : ob sk L 10 a) : xgI (cH sk L τ) 10 1 a = some (fI τ a 1) := c_gI h rfl (by decide)
theorem C10p1 (h : ob sk L 10 a) (v : Int32) : xpI (cH sk L τ) 10 1 a v = some (cH sk L (tI τ a 1 v)) := c_pI h rfl (by decide) v
theorem C10g2 (h : ob sk L 10 a) : xgI (cH sk L τ) 10 2 a = some (fI τ a 2) := c_gI h rfl (by decide)
theorem C10z2 (h : ob sk L 10 a) (v : Bool) : xpZ (cH sk L τ) 10 2 a (bI v) = some (cH sk L (tI τ a 2 (bI v))) := c_pZ h rfl (by decide) v
theorem C11r0 (h : ob sk L 11 a) {q : Nat} (hq : fN τ a 0 = some q) : xgR (cH sk L τ) 11 0 a = some q := c_gR h rfl (by decide) hq
theorem C11n0 (h : ob sk L 11 a) : xgN (cH sk L τ) 11 0 a = some (fN τ a 0) := c_gN h rfl (by decide)
theorem C11w0 (h : ob sk L 11 a) (v : Option Nat) : xpN (cH sk L τ) 11 0 a v = some (cH sk L (tN τ a 0 v)) := c_pN h rfl (by decide) v
theorem C11v0 (h : ob sk L 11 a) (v : Nat) : xpR (cH sk L τ) 11 0 a v = some (cH sk L (tN τ a 0 (some v))) := c_pN h rfl (by decide) (some v)
theorem C11r1 (h : ob sk L 11 a) {q : Nat} (hq : fN τ a 1 = some q) : xgR (cH sk L τ) 11 1 a = some q := c_gR h rfl (by decide) hq
theorem C11n1 (h : ob sk L 11 a) : xgN (cH sk L τ) 11 1 a = some (fN τ a 1) := c_gN h rfl (by decide)
theorem C11w1 (h : ob sk L 11 a) (v : Option Nat) : xpN (cH sk L τ) 11 1 a v = some (cH sk L (tN τ a 1 v)) := c_pN h rfl (by decide) v
theorem C11v1 (h : ob sk L 11 a) (v : Nat) : xpR (cH sk L τ) 11 1 a v = some (cH sk L (tN τ a 1 (some v))) := c_pN h rfl (by decide) (some v)
theorem C11r2 (h : ob sk L 11 a) {q : Nat} (hq : fN τ a 2 = some q) : xgR (cH sk L τ) 11 2 a = some q := c_gR h rfl (by decide) hq
theorem C11n2 (h : ob sk L 11 a) : xgN (cH sk L τ) 11 2 a = some (fN τ a 2) := c_gN h rfl (by decide)
theorem C11w2 (h : ob sk L 11 a) (v : Option Nat) : xpN (cH sk L τ) 11 2 a v = some (cH sk L (tN τ a 2 v)) := c_pN h rfl (by decide) v
theorem C11v2 (h : ob sk L 11 a) (v : Nat) : xpR (cH sk L τ) 11 2 a v = some (cH sk L (tN τ a 2 (some v))) := c_pN h rfl (by decide) (some v)
theorem C11r3 (h : ob sk L 11 a) {q : Nat} (hq : fN τ a 3 = some q) : xgR (cH sk L τ) 11 3 a = some q := c_gR h rfl (by decide) hq
theorem C11n3 (h : ob sk L 11 a) : xgN (cH sk L τ) 11 3 a = some (fN τ a 3) := c_gN h rfl (by decide)
theorem C11w3 (h : ob sk L 11 a) (v : Option Nat) : xpN (cH sk L τ) 11 3 a v = some (cH sk L (tN τ a 3 v)) := c_pN h rfl (by decide) v
theorem C11v3 (h : ob sk L 11 a) (v : Nat) : xpR (cH sk L τ) 11 3 a v = some (cH sk L (tN τ a 3 (some v))) := c_pN h rfl (by decide) (some v)
theorem C11r4 (h : ob sk L 11 a) {q : Nat} (hq : fN τ a 4 = some q) : xgR (cH sk L τ) 11 4 a = some q := c_gR h rfl (by decide) hq
theorem C11n4 (h : ob sk L 11 a) : xgN (cH sk L τ) 11 4 a = some (fN τ a 4) := c_gN h rfl (by decide)
theorem C11w4 (h : ob sk L 11 a) (v : Option Nat) : xpN (cH sk L τ) 11 4 a v = some (cH sk L (tN τ a 4 v)) := c_pN h rfl (by decide) v
theorem C11v4 (h : ob sk L 11 a) (v : Nat) : xpR (cH sk L τ) 11 4 a v = some (cH sk L (tN τ a 4 (some v))) := c_pN h rfl (by decide) (some v)
theorem C11r5 (h : ob sk L 11 a) {q : Nat} (hq : fN τ a 5 = some q) : xgR (cH sk L τ) 11 5 a = some q := c_gR h rfl (by decide) hq
theorem C11n5 (h : ob sk L 11 a) : xgN (cH sk L τ) 11 5 a = some (fN τ a 5) := c_gN h rfl (by decide)
theorem C11w5 (h : ob sk L 11 a) (v : Option Nat) : xpN (cH sk L τ) 11 5 a v = some (cH sk L (tN τ a 5 v)) := c_pN h rfl (by decide) v
theorem C11v5 (h : ob sk L 11 a) (v : Nat) : xpR (cH sk L τ) 11 5 a v = some (cH sk L (tN τ a 5 (some v))) := c_pN h rfl (by decide) (some v)
theorem C11g6 (h : ob sk L 11 a) : xgI (cH sk L τ) 11 6 a = some (fI τ a 6) := c_gI h rfl (by decide)
theorem C11p6 (h : ob sk L 11 a) (v : Int32) : xpI (cH sk L τ) 11 6 a v = some (cH sk L (tI τ a 6 v)) := c_pI h rfl (by decide) v
theorem C11g7 (h : ob sk L 11 a) : xgI (cH sk L τ) 11 7 a = some (fI τ a 7) := c_gI h rfl (by decide)
theorem C11p7 (h : ob sk L 11 a) (v : Int32) : xpI (cH sk L τ) 11 7 a v = some (cH sk L (tI τ a 7 v)) := c_pI h rfl (by decide) v
theorem C11g8 (h : ob sk L 11 a) : xgI (cH sk L τ) 11 8 a = some (fI τ a 8) := c_gI h rfl (by decide)
theorem C11p8 (h : ob sk L 11 a) (v : Int32) : xpI (cH sk L τ) 11 8 a v = some (cH sk L (tI τ a 8 v)) := c_pI h rfl (by decide) v
end CF
