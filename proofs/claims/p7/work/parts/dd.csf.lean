/-! safety, step by step: a run ends, its answer is of a kind, and the state it leaves keeps a property -/
def Sf (sk : Nat → Nat × Nat × Nat) (L : Nat) (I : px_TT → Prop) {α : Type} (V : α → Prop) (m : Option (α × px_H)) : Prop := ∃ v τ, m = some (v, cH sk L τ) ∧ V v ∧ I τ
/-- nothing is said of the answer -/
def Any {α : Type} (_ : α) : Prop := True
theorem any {α : Type} {x : α} : Any x := trivial
section SFR
variable {sk : Nat → Nat × Nat × Nat} {L : Nat} {I : px_TT → Prop} {α β : Type} {V : α → Prop} {W : β → Prop} {τ : px_TT} {ci k a t n : Nat}
theorem sf_r {v : α} (hv : V v) (hI : I τ) : Sf sk L I V (some (v, cH sk L τ)) := ⟨v, τ, rfl, hv, hI⟩
theorem sf_z {V : Int32 → Prop} {v : Int32} (hz : isZ v) (hv : V v) (hI : I τ) : Sf sk L I V (xz v (cH sk L τ)) := by
  obtain ⟨b, rfl⟩ := hz
  exact ⟨bI b, τ, xz_b b _, hv, hI⟩
theorem sf_i {p : Prop} [Decidable p] {x y : Option (α × px_H)} (h1 : p → Sf sk L I V x) (h2 : ¬ p → Sf sk L I V y) : Sf sk L I V (if p then x else y) := by
  by_cases c : p
  · rw [if_pos c]; exact h1 c
  · rw [if_neg c]; exact h2 c
theorem sf_x {m : Option (β × px_H)} {f : β → px_H → Option (α × px_H)} (h : Sf sk L I W m) (g : ∀ v τ, W v → I τ → Sf sk L I V (f v (cH sk L τ))) : Sf sk L I V (xb m f) := by
  obtain ⟨v, τ, e, hw, hI⟩ := h
  rw [e, xb_mk]
  exact g v τ hw hI
theorem sf_w {V' : α → Prop} {m : Option (α × px_H)} (h : Sf sk L I V m) (g : ∀ v, V v → V' v) : Sf sk L I V' m := by
  obtain ⟨v, τ, e, hw, hI⟩ := h
  exact ⟨v, τ, e, g v hw, hI⟩
theorem sf_s {p : Nat} {f : Nat → Option (α × px_H)} (g : Sf sk L I V (f p)) : Sf sk L I V ((some p).bind f) := g
theorem sf_m {o : Option Nat} {x : Option (α × px_H)} {f : Nat → Option (α × px_H)} (h1 : o = none → Sf sk L I V x) (h2 : ∀ p, o = some p → Sf sk L I V (f p)) : Sf sk L I V (match o with | none => x | some p => f p) := by
  cases o with
  | none => exact h1 rfl
  | some p => exact h2 p rfl
theorem sf_o {f : List Value → Option (α × px_H)} (h : ob sk L ci a) (g : ∀ l, Sf sk L I V (f l)) : Sf sk L I V ((xo (cH sk L τ) ci a).bind f) := by
  rw [c_o h, bs]; exact g _
theorem sf_gI {f : Int32 → Option (α × px_H)} (h : ob sk L ci a) (hk : cF ci k = 0) (hn : k < cN ci) (g : Sf sk L I V (f (fI τ a k))) : Sf sk L I V ((xgI (cH sk L τ) ci k a).bind f) := by
  rw [c_gI h hk hn, bs]; exact g
theorem sf_gJ {f : Int64 → Option (α × px_H)} (h : ob sk L ci a) (hk : cF ci k = 1) (hn : k < cN ci) (g : Sf sk L I V (f (fJ τ a k))) : Sf sk L I V ((xgJ (cH sk L τ) ci k a).bind f) := by
  rw [c_gJ h hk hn, bs]; exact g
theorem sf_gN {f : Option Nat → Option (α × px_H)} (h : ob sk L ci a) (hk : cF ci k = 2) (hn : k < cN ci) (g : Sf sk L I V (f (fN τ a k))) : Sf sk L I V ((xgN (cH sk L τ) ci k a).bind f) := by
  rw [c_gN h hk hn, bs]; exact g
theorem sf_gR {f : Nat → Option (α × px_H)} {q : Nat} (h : ob sk L ci a) (hk : cF ci k = 2) (hn : k < cN ci) (hq : fN τ a k = some q) (g : Sf sk L I V (f q)) : Sf sk L I V ((xgR (cH sk L τ) ci k a).bind f) := by
  rw [c_gR h hk hn hq, bs]; exact g
theorem sf_pI {f : px_H → Option (α × px_H)} {v : Int32} (h : ob sk L ci a) (hk : cF ci k = 0) (hn : k < cN ci) (hI : I (tI τ a k v)) (g : ∀ τ, I τ → Sf sk L I V (f (cH sk L τ))) : Sf sk L I V ((xpI (cH sk L τ) ci k a v).bind f) := by
  rw [c_pI h hk hn, bs]; exact g _ hI
theorem sf_pJ {f : px_H → Option (α × px_H)} {v : Int64} (h : ob sk L ci a) (hk : cF ci k = 1) (hn : k < cN ci) (hI : I (tJ τ a k v)) (g : ∀ τ, I τ → Sf sk L I V (f (cH sk L τ))) : Sf sk L I V ((xpJ (cH sk L τ) ci k a v).bind f) := by
  rw [c_pJ h hk hn, bs]; exact g _ hI
theorem sf_al {f : Int32 → Option (α × px_H)} (h : ar sk L t n a) (ht : t ≤ 6) (g : Sf sk L I V (f (nI n))) : Sf sk L I V ((xal (cH sk L τ) t a).bind f) := by
  rw [c_l h ht, bs]; exact g
theorem sf_aI {f : Int32 → Option (α × px_H)} {i : Int32} (h : ar sk L t n a) (ht : t = 0 ∨ t = 1 ∨ t = 3) (hn : n < 2 ^ 31) (hi : ∃ j, j < n ∧ i = nI j) (g : ∀ j, j < n → i = nI j → Sf sk L I V (f (eI τ a j))) : Sf sk L I V ((xaI (cH sk L τ) t a i).bind f) := by
  obtain ⟨j, hj, rfl⟩ := hi
  rw [c_aI h ht hn hj, bs]; exact g j hj rfl
theorem sf_aJ {f : Int64 → Option (α × px_H)} {i : Int32} (h : ar sk L 2 n a) (hn : n < 2 ^ 31) (hi : ∃ j, j < n ∧ i = nI j) (g : ∀ j, j < n → i = nI j → Sf sk L I V (f (eJ τ a j))) : Sf sk L I V ((xaJ (cH sk L τ) 2 a i).bind f) := by
  obtain ⟨j, hj, rfl⟩ := hi
  rw [c_aJ h hn hj, bs]; exact g j hj rfl
theorem sf_aN {f : Option Nat → Option (α × px_H)} {i : Int32} (h : ar sk L t n a) (ht : t = 4 ∨ t = 5 ∨ t = 6) (hn : n < 2 ^ 31) (hi : ∃ j, j < n ∧ i = nI j) (g : ∀ j, j < n → i = nI j → Sf sk L I V (f (eN τ a j))) : Sf sk L I V ((xaN (cH sk L τ) t a i).bind f) := by
  obtain ⟨j, hj, rfl⟩ := hi
  rw [c_aN h ht hn hj, bs]; exact g j hj rfl
theorem sf_sI {f : px_H → Option (α × px_H)} {i v : Int32} (h : ar sk L t n a) (ht : t = 0 ∨ t = 1 ∨ t = 3) (hn : n < 2 ^ 31) (hi : ∃ j, j < n ∧ i = nI j) (hI : ∀ g, I (vI τ a g)) (g : ∀ τ, I τ → Sf sk L I V (f (cH sk L τ))) : Sf sk L I V ((xsI (cH sk L τ) t a i v).bind f) := by
  obtain ⟨j, hj, rfl⟩ := hi
  rw [c_sI h ht hn hj, bs]; exact g _ (hI _)
theorem sf_sJ {f : px_H → Option (α × px_H)} {i : Int32} {v : Int64} (h : ar sk L 2 n a) (hn : n < 2 ^ 31) (hi : ∃ j, j < n ∧ i = nI j) (hI : ∀ g, I (vJ τ a g)) (g : ∀ τ, I τ → Sf sk L I V (f (cH sk L τ))) : Sf sk L I V ((xsJ (cH sk L τ) 2 a i v).bind f) := by
  obtain ⟨j, hj, rfl⟩ := hi
  rw [c_sJ h hn hj, bs]; exact g _ (hI _)
/-- a run that only reads -/
theorem sf_of {m : Option (α × px_H)} (h : ∃ v, m = some (v, cH sk L τ)) (hI : I τ) : Sf sk L I Any m := by
  obtain ⟨v, e⟩ := h
  exact ⟨v, τ, e, any, hI⟩
end SFR
/-! the state between two links, as far as a call may need it -/
/-- a row that calls write: its cell, its bytes' cell, its length -/
def TRw (r A n : Nat) : Prop := (r = 3 ∧ A = 4 ∧ n = 65536) ∨ (r = 5 ∧ A = 6 ∧ n = 65536) ∨ (r = 1714 ∧ A = 1715 ∧ n = 1536) ∨ (r = 1719 ∧ A = 1720 ∧ n = 65536)
/-- the memory's counts -/
def MEm (τ : px_TT) : Prop := (∃ m, m ≤ 8 ∧ fI τ 1718 6 = nI m) ∧ ∃ m, m ≤ 4096 ∧ fI τ 1718 9 = nI m
/-- a name of the link's table -/
def Nmo (sk : Nat → Nat × Nat × Nat) (L : Nat) (τ : px_TT) (p : Nat) : Prop := 1815 ≤ p ∧ ob sk L 5 p ∧ (fI τ p 5 = nI 1 → ∃ x, x < 1536 ∧ fN τ p 6 = some (152 + x))
/-- the names that a merge listed so far -/
def MLs (N : Nat) (sk : Nat → Nat × Nat × Nat) (L : Nat) (τ0 τ : px_TT) : Prop := ∃ m, m ≤ N ∧ fI τ 1713 6 = nI m ∧ ∀ i p, i < m → i < 64 → eN τ 1717 i = some p → Nmo sk L τ0 p
def SI (zb : Option Nat) (sk : Nat → Nat × Nat × Nat) (L : Nat) (τ0 τ : px_TT) : Prop := frZ τ0 τ ∧ ((∀ k, fI τ 1 k = fI τ0 1 k) ∧ eI τ 2 = eI τ0 2 ∧ fI τ 147 18 = fI τ0 147 18 ∧ (∀ k, fI τ 1711 k = fI τ0 1711 k) ∧ eI τ 1712 = eI τ0 1712) ∧ ROk sk L τ ∧ MEm τ ∧ ∀ N, zb = some N → MLs N sk L τ0 τ
section SIS
variable {sk : Nat → Nat × Nat × Nat} {L : Nat} {zb : Option Nat} {τ0 τ τ' : px_TT} {r A n : Nat}
theorem SI_row (h : SI zb sk L τ0 τ) (hr : TRw r A n) : rowOK sk L τ r A n := by
  obtain ⟨_, _, ⟨_, h3, h5, h1711, h1714, h1719⟩, _, _⟩ := h
  rcases hr with ⟨rfl, rfl, rfl⟩ | ⟨rfl, rfl, rfl⟩ | ⟨rfl, rfl, rfl⟩ | ⟨rfl, rfl, rfl⟩
  · exact h3
  · exact h5
  · exact h1714
  · exact h1719
theorem SI_fl (h : SI zb sk L τ0 τ) : rowOK sk L τ 1711 1712 65536 := h.2.2.1.2.2.2.1
theorem rowOK_fr {r' A' n' : Nat} (h : rowOK sk L τ r' A' n') (f : frRw r A τ τ') (hr : r' ≠ r) (hA : A' ≠ A) : rowOK sk L τ' r' A' n' := by
  obtain ⟨h1, h2, h3, h4, h5, h6, h7⟩ := h
  refine ⟨h1, h2, h3, (f.2.2.1 _ _).trans h4, ?_, ?_, ?_⟩
  · rw [f.1 r' 1 (Or.inl hr)]; exact h5
  · rw [f.1 r' 2 (Or.inl hr)]; exact h6
  · rw [f.2.2.2.1 A' hA]; exact h7
theorem SI_Rw (h : SI zb sk L τ0 τ) (hr : TRw r A n) (f : frRw r A τ τ') (hk : rowOK sk L τ' r A n) : SI zb sk L τ0 τ' := by
  have hr' := hr
  unfold TRw at hr'
  obtain ⟨hZ, hT, ⟨⟨ro, rd, hc, e1, e2⟩, h3, h5, h1711, h1714, h1719⟩, ⟨hm1, hm2⟩, hm3⟩ := h
  have zr : Zc r := by unfold Zc; omega
  have zA : Zc A := by unfold Zc; omega
  have n1 : 1 ≠ r := by omega
  have n2 : 2 ≠ A := by omega
  have n3 : 1718 ≠ r := by omega
  refine ⟨frZ_trans hZ (frZ_Rw f zr zA), ⟨fun k => (f.1 1 k (Or.inl n1)).trans (hT.1 k), (f.2.2.2.1 2 n2).trans hT.2.1, (f.1 147 18 (Or.inl (by omega))).trans hT.2.2.1, fun k => (f.1 1711 k (Or.inl (by omega))).trans (hT.2.2.2.1 k), (f.2.2.2.1 1712 (by omega)).trans hT.2.2.2.2⟩, ⟨⟨ro, rd, hc, (f.2.2.1 0 1).trans e1, (f.2.2.1 0 2).trans e2⟩, ?_, ?_, rowOK_fr h1711 f (by omega) (by omega), ?_, ?_⟩, ⟨?_, ?_⟩, ?_⟩
  · rcases hr with ⟨rfl, rfl, rfl⟩ | ⟨rfl, rfl, rfl⟩ | ⟨rfl, rfl, rfl⟩ | ⟨rfl, rfl, rfl⟩
    · exact hk
    all_goals exact rowOK_fr h3 f (by decide) (by decide)
  · rcases hr with ⟨rfl, rfl, rfl⟩ | ⟨rfl, rfl, rfl⟩ | ⟨rfl, rfl, rfl⟩ | ⟨rfl, rfl, rfl⟩
    · exact rowOK_fr h5 f (by decide) (by decide)
    · exact hk
    all_goals exact rowOK_fr h5 f (by decide) (by decide)
  · rcases hr with ⟨rfl, rfl, rfl⟩ | ⟨rfl, rfl, rfl⟩ | ⟨rfl, rfl, rfl⟩ | ⟨rfl, rfl, rfl⟩
    · exact rowOK_fr h1714 f (by decide) (by decide)
    · exact rowOK_fr h1714 f (by decide) (by decide)
    · exact hk
    · exact rowOK_fr h1714 f (by decide) (by decide)
  · rcases hr with ⟨rfl, rfl, rfl⟩ | ⟨rfl, rfl, rfl⟩ | ⟨rfl, rfl, rfl⟩ | ⟨rfl, rfl, rfl⟩
    · exact rowOK_fr h1719 f (by decide) (by decide)
    · exact rowOK_fr h1719 f (by decide) (by decide)
    · exact rowOK_fr h1719 f (by decide) (by decide)
    · exact hk
  · rw [f.1 1718 6 (Or.inl n3)]; exact hm1
  · rw [f.1 1718 9 (Or.inl n3)]; exact hm2
  · intro N hN
    obtain ⟨m, h1, h2, h3⟩ := hm3 N hN
    exact ⟨m, h1, (f.1 1713 6 (Or.inl (by omega))).trans h2, by rw [f.2.2.2.2.2 1717]; exact h3⟩
/-- fields that no call needs to know -/
theorem SI_tI {a k : Nat} {v : Int32} (h : SI zb sk L τ0 τ) (hz : (a = 0 ∧ 15 ≤ k) ∨ a = 146 ∨ a = 1695 ∨ (a = 1713 ∧ k ≠ 6) ∨ (1815 ≤ a ∧ k = 17) ∨ (152 ≤ a ∧ a < 1688 ∧ k = 12) ∨ (a = 1718 ∧ k ≠ 6 ∧ k ≠ 9)) : SI zb sk L τ0 (tI τ a k v) := by
  obtain ⟨hZ, hT, ⟨hc, h3, h5, h1711, h1714, h1719⟩, ⟨hm1, hm2⟩, hm3⟩ := h
  have zz : Zc a ∨ (a = 0 ∧ 15 ≤ k) ∨ (1815 ≤ a ∧ k = 17) ∨ (152 ≤ a ∧ a < 1688 ∧ k = 12) ∨ (a = 147 ∧ k = 18) := by
    unfold Zc; omega
  have hrow : ∀ r' A' n', a ≠ r' → rowOK sk L τ r' A' n' → rowOK sk L (tI τ a k v) r' A' n' := fun r' A' n' hn w => by
    obtain ⟨h1, h2, h3, h4, h5, h6, h7⟩ := w
    refine ⟨h1, h2, h3, h4, ?_, ?_, h7⟩
    · rw [tI_ne (by omega)]; exact h5
    · rw [tI_ne (by omega)]; exact h6
  refine ⟨frZ_trans hZ (frZ_I zz), ⟨fun k' => (tI_ne (by omega)).trans (hT.1 k'), hT.2.1, (tI_ne (by omega)).trans hT.2.2.1, fun k' => (tI_ne (by omega)).trans (hT.2.2.2.1 k'), hT.2.2.2.2⟩, ⟨hc, hrow _ _ _ (by omega) h3, hrow _ _ _ (by omega) h5, hrow _ _ _ (by omega) h1711, hrow _ _ _ (by omega) h1714, hrow _ _ _ (by omega) h1719⟩, ⟨?_, ?_⟩, ?_⟩
  · rw [tI_ne (by omega)]; exact hm1
  · rw [tI_ne (by omega)]; exact hm2
  · intro N hN
    obtain ⟨m, h1, h2, h3⟩ := hm3 N hN
    exact ⟨m, h1, (tI_ne (by omega)).trans h2, h3⟩
theorem SI_m6 {m : Nat} (h : SI zb sk L τ0 τ) (hm : m ≤ 8) : SI zb sk L τ0 (tI τ 1718 6 (nI m)) := by
  obtain ⟨hZ, hT, ⟨hc, h3, h5, h1711, h1714, h1719⟩, ⟨hm1, hm2⟩, hm3⟩ := h
  have hrow : ∀ r' A' n', 1718 ≠ r' → rowOK sk L τ r' A' n' → rowOK sk L (tI τ 1718 6 (nI m)) r' A' n' := fun r' A' n' hn w => by
    obtain ⟨h1, h2, h3, h4, h5, h6, h7⟩ := w
    refine ⟨h1, h2, h3, h4, ?_, ?_, h7⟩
    · rw [tI_ne (by omega)]; exact h5
    · rw [tI_ne (by omega)]; exact h6
  refine ⟨frZ_trans hZ (frZ_I (Or.inl (by unfold Zc; omega))), ⟨fun k' => (tI_ne (by omega)).trans (hT.1 k'), hT.2.1, (tI_ne (by omega)).trans hT.2.2.1, fun k' => (tI_ne (by omega)).trans (hT.2.2.2.1 k'), hT.2.2.2.2⟩, ⟨hc, hrow _ _ _ (by omega) h3, hrow _ _ _ (by omega) h5, hrow _ _ _ (by omega) h1711, hrow _ _ _ (by omega) h1714, hrow _ _ _ (by omega) h1719⟩, ⟨⟨m, hm, tI_at⟩, ?_⟩, fun N hN => ?_⟩
  · rw [tI_ne (by omega)]; exact hm2
  · obtain ⟨m', h1, h2, h3⟩ := hm3 N hN
    exact ⟨m', h1, (tI_ne (by omega)).trans h2, h3⟩
theorem SI_m9 {m : Nat} (h : SI zb sk L τ0 τ) (hm : m ≤ 4096) : SI zb sk L τ0 (tI τ 1718 9 (nI m)) := by
  obtain ⟨hZ, hT, ⟨hc, h3, h5, h1711, h1714, h1719⟩, ⟨hm1, hm2⟩, hm3⟩ := h
  have hrow : ∀ r' A' n', 1718 ≠ r' → rowOK sk L τ r' A' n' → rowOK sk L (tI τ 1718 9 (nI m)) r' A' n' := fun r' A' n' hn w => by
    obtain ⟨h1, h2, h3, h4, h5, h6, h7⟩ := w
    refine ⟨h1, h2, h3, h4, ?_, ?_, h7⟩
    · rw [tI_ne (by omega)]; exact h5
    · rw [tI_ne (by omega)]; exact h6
  refine ⟨frZ_trans hZ (frZ_I (Or.inl (by unfold Zc; omega))), ⟨fun k' => (tI_ne (by omega)).trans (hT.1 k'), hT.2.1, (tI_ne (by omega)).trans hT.2.2.1, fun k' => (tI_ne (by omega)).trans (hT.2.2.2.1 k'), hT.2.2.2.2⟩, ⟨hc, hrow _ _ _ (by omega) h3, hrow _ _ _ (by omega) h5, hrow _ _ _ (by omega) h1711, hrow _ _ _ (by omega) h1714, hrow _ _ _ (by omega) h1719⟩, ⟨?_, ⟨m, hm, tI_at⟩⟩, fun N hN => ?_⟩
  · rw [tI_ne (by omega)]; exact hm1
  · obtain ⟨m', h1, h2, h3⟩ := hm3 N hN
    exact ⟨m', h1, (tI_ne (by omega)).trans h2, h3⟩
theorem SI_tJ {a k : Nat} {v : Int64} (h : SI zb sk L τ0 τ) (hz : a = 146 ∨ a = 1695 ∨ a = 1718) : SI zb sk L τ0 (tJ τ a k v) :=
  ⟨frZ_trans h.1 (frZ_J (Or.inl (by unfold Zc; omega))), h.2.1, h.2.2.1, h.2.2.2⟩
theorem SI_vI {a : Nat} {g : Nat → Int32} (h : SI zb sk L τ0 τ) (hz : a = 1716 ∨ a = 1724) : SI zb sk L τ0 (vI τ a g) := by
  obtain ⟨hZ, hT, ⟨hc, h3, h5, h1711, h1714, h1719⟩, hm⟩ := h
  have hrow : ∀ r' A' n', A' ≠ a → rowOK sk L τ r' A' n' → rowOK sk L (vI τ a g) r' A' n' := fun r' A' n' hn w => by
    obtain ⟨h1, h2, h3, h4, h5, h6, h7⟩ := w
    exact ⟨h1, h2, h3, h4, h5, h6, by rw [eI_v_ne hn]; exact h7⟩
  exact ⟨frZ_trans hZ (frZ_v (by unfold Zc; omega)), ⟨hT.1, (eI_v_ne (by omega)).trans hT.2.1, hT.2.2.1, hT.2.2.2.1, (eI_v_ne (by omega)).trans hT.2.2.2.2⟩, ⟨hc, hrow _ _ _ (by omega) h3, hrow _ _ _ (by omega) h5, hrow _ _ _ (by omega) h1711, hrow _ _ _ (by omega) h1714, hrow _ _ _ (by omega) h1719⟩, hm⟩
theorem SI_vJ {a : Nat} {g : Nat → Int64} (h : SI zb sk L τ0 τ) (hz : 1721 ≤ a ∧ a ≤ 1725) : SI zb sk L τ0 (vJ τ a g) :=
  ⟨frZ_trans h.1 (frZ_vJ (by unfold Zc; omega)), h.2.1, h.2.2.1, h.2.2.2⟩
theorem SI_N {a : Nat} (h : SI zb sk L τ0 τ) (f : frN a τ τ') (hz : a = 146 ∨ a = 1695) : SI zb sk L τ0 τ' := by
  obtain ⟨hZ, hT, ⟨⟨ro, rd, hc, e1, e2⟩, h3, h5, h1711, h1714, h1719⟩, ⟨hm1, hm2⟩, hm3⟩ := h
  have hrow : ∀ r' A' n', r' ≠ a → rowOK sk L τ r' A' n' → rowOK sk L τ' r' A' n' := fun r' A' n' hn w => by
    obtain ⟨h1, h2, h3, h4, h5, h6, h7⟩ := w
    refine ⟨h1, h2, h3, (f.2.2.1 _ _).trans h4, ?_, ?_, ?_⟩
    · rw [f.1 r' 1 (Or.inl hn)]; exact h5
    · rw [f.1 r' 2 (Or.inl hn)]; exact h6
    · rw [f.2.2.2.1 A']; exact h7
  refine ⟨frZ_trans hZ (frZ_N f (by unfold Zc; omega)), ⟨fun k => (f.1 1 k (Or.inl (by omega))).trans (hT.1 k), (f.2.2.2.1 2).trans hT.2.1, (f.1 147 18 (Or.inl (by omega))).trans hT.2.2.1, fun k => (f.1 1711 k (Or.inl (by omega))).trans (hT.2.2.2.1 k), (f.2.2.2.1 1712).trans hT.2.2.2.2⟩, ⟨⟨ro, rd, hc, (f.2.2.1 0 1).trans e1, (f.2.2.1 0 2).trans e2⟩, hrow _ _ _ (by omega) h3, hrow _ _ _ (by omega) h5, hrow _ _ _ (by omega) h1711, hrow _ _ _ (by omega) h1714, hrow _ _ _ (by omega) h1719⟩, ⟨?_, ?_⟩, ?_⟩
  · rw [f.1 1718 6 (Or.inl (by omega))]; exact hm1
  · rw [f.1 1718 9 (Or.inl (by omega))]; exact hm2
  · intro N hN
    obtain ⟨m, h1, h2, h3⟩ := hm3 N hN
    exact ⟨m, h1, (f.1 1713 6 (Or.inl (by omega))).trans h2, by rw [f.2.2.2.2.2 1717]; exact h3⟩
/-- the rows by their cells alone -/
def RWr (r : Nat) : Prop := r = 3 ∨ r = 5 ∨ r = 1714 ∨ r = 1719
theorem RWr_T (h : RWr r) : ∃ A n, TRw r A n := by
  rcases h with rfl | rfl | rfl | rfl
  · exact ⟨4, 65536, Or.inl ⟨rfl, rfl, rfl⟩⟩
  · exact ⟨6, 65536, Or.inr (Or.inl ⟨rfl, rfl, rfl⟩)⟩
  · exact ⟨1715, 1536, Or.inr (Or.inr (Or.inl ⟨rfl, rfl, rfl⟩))⟩
  · exact ⟨1720, 65536, Or.inr (Or.inr (Or.inr ⟨rfl, rfl, rfl⟩))⟩
/-- .. and the tape, which is only read -/
def RRd (r : Nat) : Prop := r = 1 ∨ RWr r
def grG (a k : Nat) : List (Nat × Nat × Nat) → Option Nat
  | [] => none
  | (x, y, z) :: l => bif Nat.beq x a && Nat.beq y k then some z else grG a k l
def grF (a k : Nat) : Option Nat := grG a k grl
theorem grG_m {a k q : Nat} : ∀ {l : List (Nat × Nat × Nat)}, grG a k l = some q → (a, k, q) ∈ l
  | [], h => by cases h
  | (x, y, z) :: l, h => by
    unfold grG at h
    cases e : (Nat.beq x a && Nat.beq y k) with
    | true =>
      rw [e] at h
      simp only [Bool.and_eq_true, Nat.beq_eq] at e
      injection h with h3
      rw [← e.1, ← e.2, ← h3]; exact List.mem_cons_self
    | false => rw [e] at h; exact List.mem_cons_of_mem _ (grG_m h)
theorem grF_m {a k q : Nat} (h : grF a k = some q) : (a, k, q) ∈ grl := grG_m h
/-- what holds at the state that the calls start from -/
def S0 (sk : Nat → Nat × Nat × Nat) (L : Nat) (τ0 : px_TT) : Prop := GS sk L ∧ GR τ0 ∧ ∃ z, z ≤ 8192 ∧ fI τ0 1 1 = nI z
theorem SI_S (h0 : S0 sk L τ0) (h : SI zb sk L τ0 τ) (hr : RRd r) : ∃ A n, rowS sk L τ r A n := by
  rcases hr with rfl | hr
  · obtain ⟨z, hz, ez⟩ := h0.2.2
    exact ⟨2, 8192, G1 h0.1, G2 h0.1, by decide, GR_r (GR_Z h0.2.1 h.1) (by decide), z, hz, (h.2.1.1 1).trans ez⟩
  · obtain ⟨A, n, hT⟩ := RWr_T hr
    exact ⟨A, n, rowOK_S (SI_row h hT)⟩
theorem RRd_o (h0 : S0 sk L τ0) (hr : RRd r) : ob sk L 10 r := by
  rcases hr with rfl | rfl | rfl | rfl | rfl
  · exact G1 h0.1
  · exact G3 h0.1
  · exact G5 h0.1
  · exact GS_o h0.1 (by decide) (by decide)
  · exact GS_o h0.1 (by decide) (by decide)
theorem sf_gG {I : px_TT → Prop} {α : Type} {V : α → Prop} {f : Nat → Option (α × px_H)} {a ci k q : Nat} (h0 : S0 sk L τ0) (hI : SI zb sk L τ0 τ) (ha : a < 1726) (hks : ks a = (0, ci, 0)) (hk : cF ci k = 2) (hn : k < cN ci) (hq : grF a k = some q) (g : Sf sk L I V (f q)) : Sf sk L I V ((xgR (cH sk L τ) ci k a).bind f) := sf_gR (GS_o h0.1 ha hks) hk hn (GR_r (GR_Z h0.2.1 hI.1) (grF_m hq)) g
theorem sf_gF {I : px_TT → Prop} {α : Type} {V : α → Prop} {f : Int32 → Option (α × px_H)} {a ci k : Nat} (h0 : S0 sk L τ0) (ha : a < 1726) (hks : ks a = (0, ci, 0)) (hk : cF ci k = 0) (hn : k < cN ci) (g : Sf sk L I V (f (fI τ a k))) : Sf sk L I V ((xgI (cH sk L τ) ci k a).bind f) := sf_gI (GS_o h0.1 ha hks) hk hn g
theorem sf_oF {I : px_TT → Prop} {α : Type} {V : α → Prop} {f : List Value → Option (α × px_H)} {a ci : Nat} (h0 : S0 sk L τ0) (ha : a < 1726) (hks : ks a = (0, ci, 0)) (g : ∀ l, Sf sk L I V (f l)) : Sf sk L I V ((xo (cH sk L τ) ci a).bind f) := sf_o (GS_o h0.1 ha hks) g
theorem sf_lF {I : px_TT → Prop} {α : Type} {V : α → Prop} {f : Int32 → Option (α × px_H)} {a t m : Nat} (h0 : S0 sk L τ0) (ha : a < 1726) (hks : ks a = (1, t, m)) (ht : t ≤ 6) (g : Sf sk L I V (f (nI m))) : Sf sk L I V ((xal (cH sk L τ) t a).bind f) := sf_al (GS_a h0.1 ha hks) ht g
theorem sf_sb {I : px_TT → Prop} {α : Type} {V : α → Prop} {f : Nat → Option (α × px_H)} {o : Option Nat} {p : Nat} (h : o = some p) (g : Sf sk L I V (f p)) : Sf sk L I V (o.bind f) := by
  rw [h, bs]; exact g
theorem sf_aIF {I : px_TT → Prop} {α : Type} {V : α → Prop} {f : Int32 → Option (α × px_H)} {a t m : Nat} {i : Int32} (h0 : S0 sk L τ0) (ha : a < 1726) (hks : ks a = (1, t, m)) (ht : t = 0 ∨ t = 1 ∨ t = 3) (hn : m < 2 ^ 31) (hi : ∃ j, j < m ∧ i = nI j) (g : ∀ j, j < m → i = nI j → Sf sk L I V (f (eI τ a j))) : Sf sk L I V ((xaI (cH sk L τ) t a i).bind f) := sf_aI (GS_a h0.1 ha hks) ht hn hi g
theorem sf_aJF {I : px_TT → Prop} {α : Type} {V : α → Prop} {f : Int64 → Option (α × px_H)} {a m : Nat} {i : Int32} (h0 : S0 sk L τ0) (ha : a < 1726) (hks : ks a = (1, 2, m)) (hn : m < 2 ^ 31) (hi : ∃ j, j < m ∧ i = nI j) (g : ∀ j, j < m → i = nI j → Sf sk L I V (f (eJ τ a j))) : Sf sk L I V ((xaJ (cH sk L τ) 2 a i).bind f) := sf_aJ (GS_a h0.1 ha hks) hn hi g
theorem sf_aNF {I : px_TT → Prop} {α : Type} {V : α → Prop} {f : Option Nat → Option (α × px_H)} {a t m : Nat} {i : Int32} (h0 : S0 sk L τ0) (ha : a < 1726) (hks : ks a = (1, t, m)) (ht : t = 4 ∨ t = 5 ∨ t = 6) (hn : m < 2 ^ 31) (hi : ∃ j, j < m ∧ i = nI j) (g : ∀ j, j < m → i = nI j → Sf sk L I V (f (eN τ a j))) : Sf sk L I V ((xaN (cH sk L τ) t a i).bind f) := sf_aN (GS_a h0.1 ha hks) ht hn hi g
theorem sf_sIF {I : px_TT → Prop} {α : Type} {V : α → Prop} {f : px_H → Option (α × px_H)} {a t m : Nat} {i v : Int32} (h0 : S0 sk L τ0) (ha : a < 1726) (hks : ks a = (1, t, m)) (ht : t = 0 ∨ t = 1 ∨ t = 3) (hn : m < 2 ^ 31) (hi : ∃ j, j < m ∧ i = nI j) (hI : ∀ g, I (vI τ a g)) (g : ∀ τ, I τ → Sf sk L I V (f (cH sk L τ))) : Sf sk L I V ((xsI (cH sk L τ) t a i v).bind f) := sf_sI (GS_a h0.1 ha hks) ht hn hi hI g
theorem sf_sJF {I : px_TT → Prop} {α : Type} {V : α → Prop} {f : px_H → Option (α × px_H)} {a m : Nat} {i : Int32} {v : Int64} (h0 : S0 sk L τ0) (ha : a < 1726) (hks : ks a = (1, 2, m)) (hn : m < 2 ^ 31) (hi : ∃ j, j < m ∧ i = nI j) (hI : ∀ g, I (vJ τ a g)) (g : ∀ τ, I τ → Sf sk L I V (f (cH sk L τ))) : Sf sk L I V ((xsJ (cH sk L τ) 2 a i v).bind f) := sf_sJ (GS_a h0.1 ha hks) hn hi hI g
section SFC
variable {F : Nat} {c : px_CT}
theorem sf_num {k : Nat} {x : Int32} (h0 : S0 sk L τ0) (hF : 65540 < F) (hI : SI zb sk L τ0 τ) (hr : RRd r) (hk : k ≤ 8) : Sf sk L (SI zb sk L τ0) Any (f_Row_num F c r x (nI k) (cH sk L τ)) := by
  obtain ⟨A, n, h⟩ := SI_S h0 hI hr
  exact sf_of (k_numS (by omega) hk h) hI
theorem sf_at {x : Int32} (h0 : S0 sk L τ0) (hI : SI zb sk L τ0 τ) (hr : RRd r) : Sf sk L (SI zb sk L τ0) Any (f_Row_at F c r x (cH sk L τ)) := by
  obtain ⟨A, n, h⟩ := SI_S h0 hI hr
  exact sf_of (k_atS h) hI
theorem sf_above {a b : Int64} (hI : SI zb sk L τ0 τ) : Sf sk L (SI zb sk L τ0) isZ (f_H_above F c a b (cH sk L τ)) := by
  obtain ⟨z, e⟩ := k_aboveS (F := F) (c := c) (a := a) (b := b) (ph := cH sk L τ)
  exact ⟨_, τ, e, ⟨z, rfl⟩, hI⟩
theorem sf_holds {a b : Int64} (h0 : S0 sk L τ0) (hI : SI zb sk L τ0 τ) (hr : RRd r) : Sf sk L (SI zb sk L τ0) isZ (f_Row_holds F c r a b (cH sk L τ)) := by
  obtain ⟨A, n, h⟩ := SI_S h0 hI hr
  obtain ⟨z, e⟩ := k_holdsS (F := F) (c := c) (a := a) (b := b) h
  exact ⟨_, τ, e, ⟨z, rfl⟩, hI⟩
theorem sf_nameLen {x y : Int32} (h0 : S0 sk L τ0) (hF : 65540 < F) (hI : SI zb sk L τ0 τ) (hr : RRd r) : Sf sk L (SI zb sk L τ0) Any (f_Row_nameLength F c r x y (cH sk L τ)) := by
  obtain ⟨A, n, h⟩ := SI_S h0 hI hr
  obtain ⟨w, _, e⟩ := k_nameLenS (F := F) (c := c) (x := x) (y := y) (by omega) h
  exact ⟨_, τ, e, any, hI⟩
theorem sf_Rw {β : Type} {m : Option (β × px_H)} {v : β} (hI : SI zb sk L τ0 τ) (hr : TRw r A n) (h : ∃ τ', m = some (v, cH sk L τ') ∧ rowOK sk L τ' r A n ∧ frRw r A τ τ') : Sf sk L (SI zb sk L τ0) Any m := by
  obtain ⟨τ', e, h1, h2⟩ := h
  exact ⟨v, τ', e, any, SI_Rw hI hr h2 h1⟩
theorem sf_clear (hI : SI zb sk L τ0 τ) (hr : RWr r) : Sf sk L (SI zb sk L τ0) Any (f_Row_clear F c r (cH sk L τ)) := by
  obtain ⟨A, n, hT⟩ := RWr_T hr
  exact sf_Rw hI hT (k_clearS (SI_row hI hT))
theorem sf_put {k : Nat} {v : Int64} (hF : 65540 < F) (hI : SI zb sk L τ0 τ) (hr : RWr r) (hk : k ≤ 8) : Sf sk L (SI zb sk L τ0) Any (f_Row_put F c r (nI k) v (cH sk L τ)) := by
  obtain ⟨A, n, hT⟩ := RWr_T hr
  exact sf_Rw hI hT (k_putS (by omega) (by omega) (SI_row hI hT))
theorem sf_set {k : Nat} {p : Int32} {v : Int64} (hF : 65540 < F) (hI : SI zb sk L τ0 τ) (hr : RWr r) (hk : k ≤ 8) : Sf sk L (SI zb sk L τ0) Any (f_Row_set F c r p (nI k) v (cH sk L τ)) := by
  obtain ⟨A, n, hT⟩ := RWr_T hr
  exact sf_Rw hI hT (k_setS (by omega) (by omega) (SI_row hI hT))
theorem sf_fill {x : Int64} {w : Int32} (hF : 65540 < F) (hI : SI zb sk L τ0 τ) (hr : RWr r) (hx : ∃ e, e < 2 ^ 62 ∧ x = lN e) : Sf sk L (SI zb sk L τ0) Any (f_Row_fillTo F c r x w (cH sk L τ)) := by
  obtain ⟨A, n, hT⟩ := RWr_T hr
  obtain ⟨e, he, rfl⟩ := hx
  exact sf_Rw hI hT (k_fillToS (by omega) he (SI_row hI hT))
theorem sf_hex {v : Int64} (hF : 65540 < F) (hI : SI zb sk L τ0 τ) (hr : RWr r) : Sf sk L (SI zb sk L τ0) Any (f_Row_putHex F c r v (cH sk L τ)) := by
  obtain ⟨A, n, hT⟩ := RWr_T hr
  exact sf_Rw hI hT (k_putHexS (by omega) (SI_row hI hT))
theorem sf_dec {v : Int32} (hF : 65540 < F) (hI : SI zb sk L τ0 τ) (hr : RWr r) : Sf sk L (SI zb sk L τ0) Any (f_Row_putDecimal F c r v (cH sk L τ)) := by
  obtain ⟨A, n, hT⟩ := RWr_T hr
  exact sf_Rw hI hT (k_putDecS (by omega) (SI_row hI hT))
theorem sf_high {v : Int32} (hF : 65540 < F) (hI : SI zb sk L τ0 τ) (hr : RWr r) : Sf sk L (SI zb sk L τ0) Any (f_Row_putHighestFirst F c r v (cH sk L τ)) := by
  obtain ⟨A, n, hT⟩ := RWr_T hr
  exact sf_Rw hI hT (k_putHighS (by omega) (SI_row hI hT))
theorem sf_writeTo {p : Nat} (hF : 65540 < F) (hI : SI zb sk L τ0 τ) (hp : ob sk L 5 p) (hr : RWr r) : Sf sk L (SI zb sk L τ0) Any (f_Name_writeTo F c p r (cH sk L τ)) := by
  obtain ⟨A, n, hT⟩ := RWr_T hr
  exact sf_Rw hI hT (k_writeToS (by omega) hp (SI_row hI hT))
/-- where bytes are copied from -/
def CS (sk : Nat → Nat × Nat × Nat) (L : Nat) (τ : px_TT) (S : Nat) : Prop := ∃ N, ar sk L 0 N S ∧ N ≤ 65536 ∧ ∀ k, isB (eI τ S k)
theorem CS_S (hI : SI zb sk L τ0 τ) (hr : TRw r A n) : CS sk L τ A := ⟨n, (SI_row hI hr).2.1, (SI_row hI hr).2.2.1, (SI_row hI hr).2.2.2.2.2.2⟩
theorem CS_F (hI : SI zb sk L τ0 τ) : CS sk L τ 1712 := ⟨65536, (SI_fl hI).2.1, (SI_fl hI).2.2.1, (SI_fl hI).2.2.2.2.2.2⟩
theorem sf_copy {S : Nat} {q m : Int32} (hI : SI zb sk L τ0 τ) (hS : CS sk L τ S) (hr : RWr r) : Sf sk L (SI zb sk L τ0) Any (f_Row_copy F c r S q m (cH sk L τ)) := by
  obtain ⟨A, n, hT⟩ := RWr_T hr
  obtain ⟨N, h1, h2, h3⟩ := hS
  exact sf_Rw hI hT (k_copyS h1 h2 h3 (SI_row hI hT))
end SFC
end SIS
