/-! what stays while all is laid out -/
def frLy (τ τ' : px_TT) : Prop := (∀ a k, a < 1815 → a ≠ 1697 → a ≠ 1700 → fI τ' a k = fI τ a k) ∧ (∀ a k, 1815 ≤ a → k ≠ 15 → k ≠ 16 → fI τ' a k = fI τ a k) ∧ (∀ a k, a < 1815 → a ≠ 1697 → a ≠ 1700 → (a < 152 ∨ 1688 ≤ a ∨ k ≠ 11) → fJ τ' a k = fJ τ a k) ∧ (∀ a k, 1815 ≤ a → k ≠ 14 → fJ τ' a k = fJ τ a k) ∧ (∀ a k, fN τ' a k = fN τ a k) ∧ (∀ a, (a < 1698 ∨ 1709 < a) → eI τ' a = eI τ a) ∧ (∀ a, (a < 1704 ∨ 1707 < a) → eJ τ' a = eJ τ a) ∧ ∀ a, a ≠ 1701 → eN τ' a = eN τ a
theorem frLy_refl {τ : px_TT} : frLy τ τ := ⟨fun _ _ _ _ _ => rfl, fun _ _ _ _ _ => rfl, fun _ _ _ _ _ _ => rfl, fun _ _ _ _ => rfl, fun _ _ => rfl, fun _ _ => rfl, fun _ _ => rfl, fun _ _ => rfl⟩
theorem frLy_trans {τ τ1 τ2 : px_TT} (h : frLy τ τ1) (g : frLy τ1 τ2) : frLy τ τ2 := ⟨fun a k x y z => (g.1 a k x y z).trans (h.1 a k x y z), fun a k x y z => (g.2.1 a k x y z).trans (h.2.1 a k x y z), fun a k x y z w => (g.2.2.1 a k x y z w).trans (h.2.2.1 a k x y z w), fun a k x y => (g.2.2.2.1 a k x y).trans (h.2.2.2.1 a k x y), fun a k => (g.2.2.2.2.1 a k).trans (h.2.2.2.2.1 a k), fun a x => (g.2.2.2.2.2.1 a x).trans (h.2.2.2.2.2.1 a x), fun a x => (g.2.2.2.2.2.2.1 a x).trans (h.2.2.2.2.2.2.1 a x), fun a x => (g.2.2.2.2.2.2.2 a x).trans (h.2.2.2.2.2.2.2 a x)⟩
theorem frLy_Po {τ τ' : px_TT} (f : frPo τ τ') : frLy τ τ' := ⟨fun a k _ h _ => f.1 a k (Or.inl h), fun a k h _ _ => f.1 a k (Or.inl (by omega)), fun a k _ _ _ _ => f.2.1 a k, fun a k _ _ => f.2.1 a k, f.2.2.1, fun a h => f.2.2.2.1 a (by omega) (by omega), fun a _ => f.2.2.2.2.1 a, fun a _ => f.2.2.2.2.2 a⟩
/-- a number of the layout's or the pool's own -/
theorem frLy_I {τ : px_TT} {a k : Nat} {v : Int32} (h : a = 1697 ∨ a = 1700 ∨ (1815 ≤ a ∧ (k = 15 ∨ k = 16))) : frLy τ (tI τ a k v) := ⟨fun x y _ _ _ => tI_ne (Or.inl (by omega)), fun x y _ _ _ => tI_ne (by omega), fun _ _ _ _ _ _ => rfl, fun _ _ _ _ => rfl, fun _ _ => rfl, fun _ _ => rfl, fun _ _ => rfl, fun _ _ => rfl⟩
theorem frLy_J {τ : px_TT} {a k : Nat} {v : Int64} (h : a = 1697 ∨ a = 1700 ∨ (152 ≤ a ∧ a < 1688 ∧ k = 11) ∨ (1815 ≤ a ∧ k = 14)) : frLy τ (tJ τ a k v) := ⟨fun _ _ _ _ _ => rfl, fun _ _ _ _ _ => rfl, fun x y _ _ _ _ => tJ_ne (by omega), fun x y _ _ => tJ_ne (by omega), fun _ _ => rfl, fun _ _ => rfl, fun _ _ => rfl, fun _ _ => rfl⟩
theorem frLy_vI {τ : px_TT} {a : Nat} {g : Nat → Int32} (h : 1698 ≤ a ∧ a ≤ 1709) : frLy τ (vI τ a g) := ⟨fun _ _ _ _ _ => rfl, fun _ _ _ _ _ => rfl, fun _ _ _ _ _ _ => rfl, fun _ _ _ _ => rfl, fun _ _ => rfl, fun x _ => eI_v_ne (by omega), fun _ _ => rfl, fun _ _ => rfl⟩
theorem eJ_v_ne {τ : px_TT} {a b : Nat} {g : Nat → Int64} (h : b ≠ a) : eJ (vJ τ a g) b = eJ τ b := u1_ne h
theorem eJ_v_eq {τ : px_TT} {a : Nat} {g : Nat → Int64} : eJ (vJ τ a g) a = g := (u1_eq : u1 τ.2.2.2.2.1 a g a = g)
theorem eN_v_ne {τ : px_TT} {a b : Nat} {g : Nat → Option Nat} (h : b ≠ a) : eN (vN τ a g) b = eN τ b := u1_ne h
theorem eN_v_eq {τ : px_TT} {a : Nat} {g : Nat → Option Nat} : eN (vN τ a g) a = g := (u1_eq : u1 τ.2.2.2.2.2 a g a = g)
theorem frLy_vJ {τ : px_TT} {a : Nat} {g : Nat → Int64} (h : 1704 ≤ a ∧ a ≤ 1707) : frLy τ (vJ τ a g) := ⟨fun _ _ _ _ _ => rfl, fun _ _ _ _ _ => rfl, fun _ _ _ _ _ _ => rfl, fun _ _ _ _ => rfl, fun _ _ => rfl, fun _ _ => rfl, fun x _ => eJ_v_ne (by omega), fun _ _ => rfl⟩
theorem frLy_vN {τ : px_TT} {g : Nat → Option Nat} : frLy τ (vN τ 1701 g) := ⟨fun _ _ _ _ _ => rfl, fun _ _ _ _ _ => rfl, fun _ _ _ _ _ _ => rfl, fun _ _ _ _ => rfl, fun _ _ => rfl, fun _ _ => rfl, fun _ _ => rfl, fun x h => eN_v_ne h⟩
section CLY
variable {sk : Nat → Nat × Nat × Nat} {L : Nat} {τ τ' : px_TT} {own : Nat → Nat × Nat} {fs : px_FS} {s : px_TK} {xs : px_NL} {ST rn : Nat → Bool} {gs : List (List Nat × Int64)} {ws : List (List Nat)} {C : Nat → Nat}
theorem GR_Ly (h : GR τ) (f : frLy τ τ') : GR τ' := GR_mv h (fun a k _ => f.2.2.2.2.1 a k) (fun a k ha _ => f.1 a k (by omega) (by omega) (by omega)) (f.2.2.2.2.2.2.2 9 (by decide)) (f.2.2.2.2.2.2.2 151 (by decide))
theorem SF_Ly (f : frLy τ τ') : SF τ τ' := ⟨fun a k h _ => f.1 a k (by omega) (by omega) (by omega), fun a k _ => f.2.2.2.2.1 a k, fun a h => f.2.2.2.2.2.1 a (by omega)⟩
theorem CB_Ly (h : CB τ C) (f : frLy τ τ') : CB τ' C := by
  unfold CB
  rw [f.2.2.2.2.2.1 8 (by decide)]
  exact h
theorem TKe_Ly (h : TKe sk L own τ fs s xs ST rn) (f : frLy τ τ') : TKe sk L own τ' fs s xs ST rn := by
  obtain ⟨a1, a2, a3, ⟨k1, k2, k3, k4⟩, a5, a6, a7⟩ := h
  have hT := BK_T (s := s) a5.1
  have hge : ∀ i, i < xs.length → 1815 ≤ pN τ 149 i := fun i hi => (k1 149 i _ (Or.inr (Or.inr rfl)) (CLm_at k2 (List.getElem?_eq_getElem hi)).2.1).1
  have eE : ∀ a, a ≠ 1701 → eN τ' a = eN τ a := f.2.2.2.2.2.2.2
  refine ⟨a1, GR_Ly a2 f, CF_mv a3 EX_refl (SF_Ly f), ⟨NP_fx k1 (fun A hA => eE A (by omega)), CLm_fx k2 EX_refl (fun i hi k hk => f.2.1 _ k (hge i hi) (by omega) (by omega)) (fun i x hx e => by rw [f.2.1 _ 13 (hge i (List.getElem?_eq_some_iff.mp hx).1) (by decide) (by decide)]; exact (k2.2.1 i x hx).2 e) (fun i hi k hk => f.2.2.2.1 _ k (hge i hi) (by omega)) (fun i hi => f.2.2.2.2.1 _ 6) ⟨f.2.2.2.2.1 148 0, f.1 148 2 (by decide) (by decide) (by decide)⟩ (f.1 147 15 (by decide) (by decide) (by decide)) (eE 149 (by decide)) (eE 1693 (by decide)), (f.1 147 14 (by decide) (by decide) (by decide)).trans k3, fun t q hq => ?_⟩, a5, a6, a7⟩
  have ht := (List.getElem?_eq_some_iff.mp hq).1
  obtain ⟨r1, r2, r3⟩ := k4 t q hq
  exact ⟨fun i hi => isPe_fx (r1 i hi) (fun k _ _ => f.1 _ k (by omega) (by omega) (by omega)) (by rw [f.1 _ 9 (by omega) (by omega) (by omega)]; exact (r1 i hi).2.2.2.2.1), RSy_fx r2 (eE 149 (by decide)) (fun k _ => by rw [eE 1692 (by decide)]), by rw [eE 1689 (by decide)]; exact r3⟩
theorem CN_Ly {N' A : Nat} (h : CN sk L τ N' A ws) (hn : NP sk L τ own) (f : frLy τ τ') (hN : N' = 140 ∨ N' = 143) (hA : A = 141 ∨ A = 144) : CN sk L τ' N' A ws := by
  obtain ⟨s1, s2, s3, s4, s5, s6, s7⟩ := h
  have eA : eN τ' A = eN τ A := f.2.2.2.2.2.2.2 A (by omega)
  refine ⟨s1, (f.2.2.2.2.1 N' 0).trans s2, s3, s4, s5, (f.1 N' 2 (by omega) (by omega) (by omega)).trans s6, fun i w hw => ?_⟩
  obtain ⟨z1, z2, z3, z4⟩ := s7 i w hw
  have hz := (hn A i _ (by omega) z2).1
  rw [eA]
  exact ⟨z1, z2, z3, (f.2.2.2.1 _ 0 hz (by decide)).trans z4.1, (f.2.2.2.1 _ 1 hz (by decide)).trans z4.2.1, (f.2.2.2.1 _ 2 hz (by decide)).trans z4.2.2.1, (f.2.1 _ 3 hz (by decide) (by decide)).trans z4.2.2.2⟩
theorem CG_Ly (h : CG sk L τ gs) (hn : NP sk L τ own) (f : frLy τ τ') : CG sk L τ' gs := by
  refine ⟨CN_Ly h.1 hn f (Or.inl rfl) (Or.inl rfl), fun i x hx => ?_⟩
  have hm : (gs.map Prod.fst)[i]? = some x.1 := by rw [List.getElem?_map, hx]; rfl
  have hp : eN τ 141 i = some ((eN τ 141 i).getD 0) := (h.1.2.2.2.2.2.2 i _ hm).2.1
  rw [f.2.2.2.2.2.2.2 141 (by decide), f.2.2.2.1 _ 7 (hn 141 i _ (Or.inl rfl) hp).1 (by decide)]
  exact h.2 i x hx
theorem CW_Ly (h : CW sk L τ ws) (hn : NP sk L τ own) (f : frLy τ τ') : CW sk L τ' ws := CN_Ly h hn f (Or.inr rfl) (Or.inr rfl)
/-- the class's order of parts -/
def COr (τ : px_TT) (ll : List Nat) : Prop := fI τ 1700 11 = nI ll.length ∧ ∀ (i x : Nat), ll[i]? = some x → eN τ 1701 i = some (152 + x)
end CLY
