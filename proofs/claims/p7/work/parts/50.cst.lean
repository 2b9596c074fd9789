/-! a heap of cells as functions: what each place is (sk: (0, class, 0) or (1, type, length)), what its fields and elements are (τ) -/
abbrev px_TT : Type := (Nat → Nat → Int32) × (Nat → Nat → Int64) × (Nat → Nat → Option Nat) × (Nat → Nat → Int32) × (Nat → Nat → Int64) × (Nat → Nat → Option Nat)
def fI (τ : px_TT) (a k : Nat) : Int32 := τ.1 a k
def fJ (τ : px_TT) (a k : Nat) : Int64 := τ.2.1 a k
def fN (τ : px_TT) (a k : Nat) : Option Nat := τ.2.2.1 a k
def eI (τ : px_TT) (a : Nat) : Nat → Int32 := τ.2.2.2.1 a
def eJ (τ : px_TT) (a : Nat) : Nat → Int64 := τ.2.2.2.2.1 a
def eN (τ : px_TT) (a : Nat) : Nat → Option Nat := τ.2.2.2.2.2 a
def u2 {α : Type} (f : Nat → Nat → α) (a k : Nat) (v : α) : Nat → Nat → α := fun x y => if x = a ∧ y = k then v else f x y
def u1 {α : Type} (f : Nat → α) (a : Nat) (v : α) : Nat → α := fun x => if x = a then v else f x
def tI (τ : px_TT) (a k : Nat) (v : Int32) : px_TT := (u2 τ.1 a k v, τ.2)
def tJ (τ : px_TT) (a k : Nat) (v : Int64) : px_TT := (τ.1, u2 τ.2.1 a k v, τ.2.2)
def tN (τ : px_TT) (a k : Nat) (v : Option Nat) : px_TT := (τ.1, τ.2.1, u2 τ.2.2.1 a k v, τ.2.2.2)
def vI (τ : px_TT) (a : Nat) (f : Nat → Int32) : px_TT := (τ.1, τ.2.1, τ.2.2.1, u1 τ.2.2.2.1 a f, τ.2.2.2.2)
def vJ (τ : px_TT) (a : Nat) (f : Nat → Int64) : px_TT := (τ.1, τ.2.1, τ.2.2.1, τ.2.2.2.1, u1 τ.2.2.2.2.1 a f, τ.2.2.2.2.2)
def vN (τ : px_TT) (a : Nat) (f : Nat → Option Nat) : px_TT := (τ.1, τ.2.1, τ.2.2.1, τ.2.2.2.1, τ.2.2.2.2.1, u1 τ.2.2.2.2.2 a f)
theorem u1_self {α : Type} (f : Nat → α) (a : Nat) : u1 f a (f a) = f := by
  funext x
  unfold u1
  by_cases c : x = a
  · rw [if_pos c, c]
  · rw [if_neg c]
theorem u1_u1 {α : Type} (f : Nat → α) (a : Nat) (v w : α) : u1 (u1 f a v) a w = u1 f a w := by
  funext x
  unfold u1
  by_cases c : x = a
  · rw [if_pos c, if_pos c]
  · rw [if_neg c, if_neg c, if_neg c]
theorem vI_self (τ : px_TT) (a : Nat) : vI τ a (eI τ a) = τ := by
  unfold vI eI
  rw [u1_self]
theorem vI_vI (τ : px_TT) (a : Nat) (f g : Nat → Int32) : vI (vI τ a f) a g = vI τ a g := by
  unfold vI
  show (τ.1, τ.2.1, τ.2.2.1, u1 (u1 τ.2.2.2.1 a f) a g, τ.2.2.2.2) = _
  rw [u1_u1]
def cF (ci k : Nat) : Nat := (cK.getD ci []).getD k 9
def cN (ci : Nat) : Nat := (cK.getD ci []).length
def cv (τ : px_TT) (ci a k : Nat) : Value := if cF ci k = 0 then .int (fI τ a k) else if cF ci k = 1 then .long (fJ τ a k) else va_rf (fN τ a k)
def cell (sk : Nat → Nat × Nat × Nat) (τ : px_TT) (a : Nat) : px_PE := if (sk a).1 = 0 then .inr ((sk a).2.1, (List.range (cN (sk a).2.1)).map (cv τ (sk a).2.1 a)) else if (sk a).2.1 = 2 then .inl (2, (sk a).2.2, .inr (.inl (eJ τ a))) else if (sk a).2.1 ≤ 3 then .inl ((sk a).2.1, (sk a).2.2, .inl (eI τ a)) else .inl ((sk a).2.1, (sk a).2.2, .inr (.inr (.inr (.inr (eN τ a)))))
def cH (sk : Nat → Nat × Nat × Nat) (L : Nat) (τ : px_TT) : px_H := (List.range L).map (cell sk τ)
/-- an object of class ci at a; an array of type t and length n -/
def ob (sk : Nat → Nat × Nat × Nat) (L ci a : Nat) : Prop := sk a = (0, ci, 0) ∧ a < L
def ar (sk : Nat → Nat × Nat × Nat) (L t n a : Nat) : Prop := sk a = (1, t, n) ∧ a < L
section CST
variable {sk : Nat → Nat × Nat × Nat} {L a : Nat} {τ : px_TT}
theorem cH_at (h : a < L) : (cH sk L τ)[a]? = some (cell sk τ a) := by
  unfold cH
  rw [List.getElem?_map, List.getElem?_range h]
  rfl
theorem cH_set {τ' : px_TT} (v : px_PE) (hv : cell sk τ' a = v) (ho : ∀ b, b ≠ a → cell sk τ' b = cell sk τ b) : (cH sk L τ).set a v = cH sk L τ' := by
  apply List.ext_getElem?
  intro i
  by_cases hi : i < L
  · rw [cH_at hi]
    by_cases c : a = i
    · subst c
      rw [List.getElem?_set_self (by simp [cH]; omega), hv]
    · rw [List.getElem?_set_ne c, cH_at hi, ho i (fun q => c q.symm)]
  · rw [List.getElem?_eq_none (by simp [cH]; omega), List.getElem?_eq_none (by simp [cH]; omega)]
theorem c_o {ci : Nat} (h : ob sk L ci a) : xo (cH sk L τ) ci a = some ((List.range (cN ci)).map (cv τ ci a)) := by
  unfold xo
  rw [cH_at h.2]
  unfold cell
  rw [h.1]
  exact if_pos rfl
theorem cv_at {ci k : Nat} (hk : k < cN ci) : ((List.range (cN ci)).map (cv τ ci a))[k]? = some (cv τ ci a k) := by
  rw [List.getElem?_map, List.getElem?_range hk]
  rfl
theorem c_gI {ci k : Nat} (h : ob sk L ci a) (hk : cF ci k = 0) (hn : k < cN ci) : xgI (cH sk L τ) ci k a = some (fI τ a k) := by
  unfold xgI
  rw [c_o h, bs, cv_at hn]
  unfold cv
  rw [if_pos hk]
  rfl
theorem c_gJ {ci k : Nat} (h : ob sk L ci a) (hk : cF ci k = 1) (hn : k < cN ci) : xgJ (cH sk L τ) ci k a = some (fJ τ a k) := by
  unfold xgJ
  rw [c_o h, bs, cv_at hn]
  unfold cv
  rw [if_neg (by rw [hk]; decide), if_pos hk]
  rfl
theorem c_gN {ci k : Nat} (h : ob sk L ci a) (hk : cF ci k = 2) (hn : k < cN ci) : xgN (cH sk L τ) ci k a = some (fN τ a k) := by
  unfold xgN
  rw [c_o h, bs, cv_at hn]
  unfold cv
  rw [if_neg (by rw [hk]; decide), if_neg (by rw [hk]; decide)]
  cases fN τ a k <;> rfl
theorem c_gR {ci k : Nat} (h : ob sk L ci a) (hk : cF ci k = 2) (hn : k < cN ci) {q : Nat} (hq : fN τ a k = some q) : xgR (cH sk L τ) ci k a = some q := by
  unfold xgR
  rw [c_o h, bs, cv_at hn]
  unfold cv
  rw [if_neg (by rw [hk]; decide), if_neg (by rw [hk]; decide), hq]
  rfl
theorem cv_set {ci k : Nat} {v : Value} {τ' : px_TT} (hv : cv τ' ci a k = v) (ho : ∀ j, j ≠ k → cv τ' ci a j = cv τ ci a j) : ((List.range (cN ci)).map (cv τ ci a)).set k v = (List.range (cN ci)).map (cv τ' ci a) := by
  apply List.ext_getElem?
  intro i
  by_cases hi : i < cN ci
  · rw [cv_at hi]
    by_cases c : k = i
    · subst c
      rw [List.getElem?_set_self (by simp; omega), hv]
    · rw [List.getElem?_set_ne c, cv_at hi, ho i (fun q => c q.symm)]
  · rw [List.getElem?_eq_none (by simp; omega), List.getElem?_eq_none (by simp; omega)]
theorem c_p {ci k : Nat} (h : ob sk L ci a) (hn : k < cN ci) {v : Value} {τ' : px_TT} (hv : cv τ' ci a k = v) (ho : ∀ j, j ≠ k → cv τ' ci a j = cv τ ci a j) (hb : ∀ b, b ≠ a → cell sk τ' b = cell sk τ b) : xp (cH sk L τ) ci k a v = some (cH sk L τ') := by
  unfold xp
  rw [c_o h, bs, if_pos (by simp [Nat.blt_eq]; exact hn), cv_set hv ho]
  congr 1
  refine cH_set _ ?_ hb
  unfold cell
  rw [h.1]
  exact if_pos rfl
theorem cell_eq {τ' : px_TT} {b : Nat} (h1 : ∀ k, fI τ' b k = fI τ b k) (h2 : ∀ k, fJ τ' b k = fJ τ b k) (h3 : ∀ k, fN τ' b k = fN τ b k) (h4 : eI τ' b = eI τ b) (h5 : eJ τ' b = eJ τ b) (h6 : eN τ' b = eN τ b) : cell sk τ' b = cell sk τ b := by
  unfold cell
  rw [h4, h5, h6]
  have : cv τ' (sk b).2.1 b = cv τ (sk b).2.1 b := by
    funext k
    unfold cv
    rw [h1, h2, h3]
  rw [this]
theorem u2_ne {α : Type} {f : Nat → Nat → α} {a k b j : Nat} {v : α} (h : b ≠ a ∨ j ≠ k) : u2 f a k v b j = f b j := if_neg (fun q => h.elim (fun e => e q.1) (fun e => e q.2))
theorem u2_eq {α : Type} {f : Nat → Nat → α} {a k : Nat} {v : α} : u2 f a k v a k = v := if_pos ⟨rfl, rfl⟩
theorem u1_ne {α : Type} {f : Nat → α} {a b : Nat} {v : α} (h : b ≠ a) : u1 f a v b = f b := if_neg h
theorem u1_eq {α : Type} {f : Nat → α} {a : Nat} {v : α} : u1 f a v a = v := if_pos rfl
theorem c_pI {ci k : Nat} (h : ob sk L ci a) (hk : cF ci k = 0) (hn : k < cN ci) (v : Int32) : xpI (cH sk L τ) ci k a v = some (cH sk L (tI τ a k v)) := by
  refine c_p h hn ?_ ?_ ?_
  · unfold cv
    rw [if_pos hk]
    exact congrArg _ u2_eq
  · intro j hj
    unfold cv
    rw [show fI (tI τ a k v) a j = fI τ a j from u2_ne (Or.inr hj)]
    rfl
  · intro b hb
    exact cell_eq (fun j => u2_ne (Or.inl hb)) (fun _ => rfl) (fun _ => rfl) rfl rfl rfl
theorem c_pZ {ci k : Nat} (h : ob sk L ci a) (hk : cF ci k = 0) (hn : k < cN ci) (v : Bool) : xpZ (cH sk L τ) ci k a (bI v) = some (cH sk L (tI τ a k (bI v))) := by
  unfold xpZ
  rw [if_pos (by cases v <;> decide)]
  exact c_pI h hk hn _
theorem c_pJ {ci k : Nat} (h : ob sk L ci a) (hk : cF ci k = 1) (hn : k < cN ci) (v : Int64) : xpJ (cH sk L τ) ci k a v = some (cH sk L (tJ τ a k v)) := by
  refine c_p h hn ?_ ?_ ?_
  · unfold cv
    rw [if_neg (by rw [hk]; decide), if_pos hk]
    exact congrArg _ u2_eq
  · intro j hj
    unfold cv
    rw [show fJ (tJ τ a k v) a j = fJ τ a j from u2_ne (Or.inr hj)]
    rfl
  · intro b hb
    exact cell_eq (fun j => rfl) (fun _ => u2_ne (Or.inl hb)) (fun _ => rfl) rfl rfl rfl
theorem c_pN {ci k : Nat} (h : ob sk L ci a) (hk : cF ci k = 2) (hn : k < cN ci) (v : Option Nat) : xpN (cH sk L τ) ci k a v = some (cH sk L (tN τ a k v)) := by
  refine c_p h hn ?_ ?_ ?_
  · unfold cv
    rw [if_neg (by rw [hk]; decide), if_neg (by rw [hk]; decide)]
    exact congrArg _ u2_eq
  · intro j hj
    unfold cv
    rw [show fN (tN τ a k v) a j = fN τ a j from u2_ne (Or.inr hj)]
    rfl
  · intro b hb
    exact cell_eq (fun j => rfl) (fun _ => rfl) (fun _ => u2_ne (Or.inl hb)) rfl rfl rfl
theorem c_A {t n : Nat} (h : ar sk L t n a) (ht : t = 0 ∨ t = 1 ∨ t = 3) : xA (cH sk L τ) t a = some (n, eI τ a) := by
  unfold xA
  rw [cH_at h.2]
  unfold cell
  rw [h.1]
  rcases ht with rfl | rfl | rfl <;> rfl
theorem c_B {n : Nat} (h : ar sk L 2 n a) : xB (cH sk L τ) 2 a = some (n, eJ τ a) := by
  unfold xB
  rw [cH_at h.2]
  unfold cell
  rw [h.1]
  rfl
theorem c_N {t n : Nat} (h : ar sk L t n a) (ht : t = 4 ∨ t = 5 ∨ t = 6) : xN (cH sk L τ) t a = some (n, eN τ a) := by
  unfold xN
  rw [cH_at h.2]
  unfold cell
  rw [h.1]
  rcases ht with rfl | rfl | rfl <;> rfl
theorem c_l {t n : Nat} (h : ar sk L t n a) (ht : t ≤ 6) : xal (cH sk L τ) t a = some (nI n) := by
  unfold xal
  rw [cH_at h.2]
  unfold cell
  rw [h.1]
  rcases (by omega : t = 0 ∨ t = 1 ∨ t = 2 ∨ t = 3 ∨ t = 4 ∨ t = 5 ∨ t = 6) with rfl | rfl | rfl | rfl | rfl | rfl | rfl <;> rfl
theorem c_aI {t n i : Nat} (h : ar sk L t n a) (ht : t = 0 ∨ t = 1 ∨ t = 3) (hn : n < 2 ^ 31) (hi : i < n) : xaI (cH sk L τ) t a (nI i) = some (eI τ a i) := xaI_at (c_A h ht) hn hi
theorem c_aJ {n i : Nat} (h : ar sk L 2 n a) (hn : n < 2 ^ 31) (hi : i < n) : xaJ (cH sk L τ) 2 a (nI i) = some (eJ τ a i) := by
  unfold xaJ
  rw [c_B h, bs, if_neg (nI_in hi hn), nI_clamp (by omega)]
theorem c_aN {t n i : Nat} (h : ar sk L t n a) (ht : t = 4 ∨ t = 5 ∨ t = 6) (hn : n < 2 ^ 31) (hi : i < n) : xaN (cH sk L τ) t a (nI i) = some (eN τ a i) := by
  unfold xaN
  rw [c_N h ht, bs, if_neg (nI_in hi hn), nI_clamp (by omega)]
theorem c_sI {t n i : Nat} (h : ar sk L t n a) (ht : t = 0 ∨ t = 1 ∨ t = 3) (hn : n < 2 ^ 31) (hi : i < n) (v : Int32) : xsI (cH sk L τ) t a (nI i) v = some (cH sk L (vI τ a (upd (eI τ a) i v))) := by
  unfold xsI
  rw [c_A h ht, bs, if_neg (nI_in hi hn), nI_clamp (by omega)]
  congr 1
  refine cH_set _ ?_ ?_
  · unfold cell
    rw [h.1, show eI (vI τ a (upd (eI τ a) i v)) a = upd (eI τ a) i v from u1_eq]
    rcases ht with rfl | rfl | rfl <;> rfl
  · intro b hb
    exact cell_eq (fun j => rfl) (fun _ => rfl) (fun _ => rfl) (u1_ne hb) rfl rfl
theorem c_sJ {n i : Nat} (h : ar sk L 2 n a) (hn : n < 2 ^ 31) (hi : i < n) (v : Int64) : xsJ (cH sk L τ) 2 a (nI i) v = some (cH sk L (vJ τ a (vp_updL (eJ τ a) i v))) := by
  unfold xsJ
  rw [c_B h, bs, if_neg (nI_in hi hn), nI_clamp (by omega)]
  congr 1
  refine cH_set _ ?_ ?_
  · unfold cell
    rw [h.1, show eJ (vJ τ a (vp_updL (eJ τ a) i v)) a = vp_updL (eJ τ a) i v from u1_eq]
    rfl
  · intro b hb
    exact cell_eq (fun j => rfl) (fun _ => rfl) (fun _ => rfl) rfl (u1_ne hb) rfl
end CST
