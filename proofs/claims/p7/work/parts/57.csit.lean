/-! the class's sites: marks -/
theorem bt_0 {x : Int32} {t : Nat} (ht : t < 32) : ((x >>> (nI t &&& 31)) &&& nI 1 = 0) ↔ bt x t = false := by
  constructor
  · intro h
    have e := congrArg (fun y => bt y 0) h
    simp only [b_and, b_0] at e
    rw [b_sshr t ht x (by decide), if_pos (by omega), Nat.add_zero, show bt (nI 1) 0 = true by decide, Bool.and_true] at e
    exact e
  · intro h
    apply b_ext
    intro i hi
    rw [b_and, b_0]
    by_cases c : i = 0
    · rw [c, b_sshr t ht x (by decide), if_pos (by omega), Nat.add_zero, h, Bool.false_and]
    · have : ∀ i, i < 32 → i ≠ 0 → bt (nI 1) i = false := by decide
      rw [this i hi c, Bool.and_false]
theorem bt_set {x : Int32} {t i : Nat} (ht : t < 32) (hi : i < 32) : bt (x ||| (nI 1 <<< (nI t &&& 31))) i = (bt x i || decide (i = t)) := by
  rw [b_or, b_shl t ht _ hi]
  congr 1
  by_cases c : i = t
  · rw [c, Nat.sub_self, decide_eq_true (Nat.le_refl t), decide_eq_true rfl]; decide
  · rw [decide_eq_false c]
    by_cases c2 : t ≤ i
    · have : ∀ j, j < 32 → j ≠ 0 → bt (nI 1) j = false := by decide
      rw [this (i - t) (by omega) (by omega), Bool.and_false]
    · rw [decide_eq_false c2, Bool.false_and]
/-- the marks with bit t set from p on, ahead of e -/
def sb (f : Nat → Int32) (t p e x : Nat) : Int32 := if p ≤ x ∧ x < e then f x ||| (nI 1 <<< (nI t &&& 31)) else f x
theorem sb_0 (f : Nat → Int32) (t p : Nat) : sb f t p p = f := by
  funext x
  exact if_neg (by omega)
theorem sb_s (f : Nat → Int32) (t p e : Nat) (h : p ≤ e) : upd (sb f t p e) e (sb f t p e e ||| (nI 1 <<< (nI t &&& 31))) = sb f t p (e + 1) := by
  funext x
  unfold upd sb
  by_cases c : x = e
  · rw [if_pos c, if_neg (by omega), if_pos (by omega), c]
  · rw [if_neg c]
    by_cases c2 : p ≤ x ∧ x < e
    · rw [if_pos c2, if_pos (by omega)]
    · rw [if_neg c2, if_neg (by omega)]
theorem sb_bt {f : Nat → Int32} {t p e x u : Nat} (ht : t < 32) (hu : u < 32) : bt (sb f t p e x) u = (bt (f x) u || decide (u = t ∧ p ≤ x ∧ x < e)) := by
  unfold sb
  by_cases c : p ≤ x ∧ x < e
  · rw [if_pos c, bt_set ht hu]
    congr 1
    exact decide_eq_decide.mpr ⟨fun h => ⟨h, c⟩, fun h => h.1⟩
  · rw [if_neg c, decide_eq_false (fun h => c h.2), Bool.or_false]
section CSI
variable {F : Nat} {c : px_CT} {sk : Nat → Nat × Nat × Nat} {L q g base n : Nat} {S : Nat → Int32}
theorem k_siteWidth {x : Nat} {h : px_H} (hx : x < 4294967296) : f_H_siteWidth F c (lN x) h = some (wI x, h) := by
  have E : ∀ y, y < 4294967296 → (lN x = lN y ↔ x = y) := fun y hy => lEQ (by omega) (by omega)
  simp only [f_H_siteWidth, f_H_siteWidth_14, f_H_siteWidth_49, f_H_siteWidth_51, f_H_siteWidth_83, f_H_siteWidth_96, lk, E 1 (by decide), E 18 (by decide), E 2 (by decide), E 4 (by decide), pk_lLT (show x < 2 ^ 63 by omega) (show 9 < 2 ^ 63 by decide), pk_lLT (show 11 < 2 ^ 63 by decide) (show x < 2 ^ 63 by omega), E 22 (by decide), E 23 (by decide), E 41 (by decide), E 42 (by decide), E 0 (by decide)]
  unfold wI wd
  by_cases c1 : x = 1
  · simp [c1]
  · by_cases c2 : x = 18
    · simp [c2]
    · by_cases c3 : x = 2 ∨ x = 4 ∨ x = 22 ∨ x = 23 ∨ x = 41 ∨ x = 42
      · rcases c3 with e | e | e | e | e | e <;> simp [e]
      · by_cases c4 : x = 9 ∨ x = 10 ∨ x = 11
        · rcases c4 with e | e | e <;> simp [e]
        · have d1 : ¬ x = 2 := by omega
          have d2 : ¬ x = 4 := by omega
          have d3 : ¬ x = 9 := by omega
          have d4 : ¬ x = 10 := by omega
          have d5 : ¬ x = 11 := by omega
          have d6 : ¬ x = 22 := by omega
          have d7 : ¬ x = 23 := by omega
          have d8 : ¬ x = 41 := by omega
          have d9 : ¬ x = 42 := by omega
          simp only [c1, c2, d1, d2, d3, d4, d5, d6, d7, d8, d9, if_false, or_self, ite_self]
          by_cases c5 : x = 0
          · simp [c5]
          · by_cases c6 : x < 9
            · simp [c5, c6]
            · have c7 : 11 < x := by omega
              simp [c5, c6, c7]
theorem k_iSG_103 {t p w : Nat} (hm : ar sk L 1 8192 139) (ht : t < 24) (hp : p + w ≤ 8192) : ∀ (d k f : Nat) (τ : px_TT) (M : Nat → Int32), k + d = w → d < f → eI τ 139 = sb M t p (p + k) → ∃ e, e ≤ p + w ∧ f_ObjectFile_isSiteGood_103 F c f (nI t) 139 (nI w) (lN p) (nI k) (cH sk L τ) = some (bI (al (fun x => !bt (M x) t) (p + k) d), cH sk L (vI τ 139 (sb M t p e))) ∧ (al (fun x => !bt (M x) t) (p + k) d = true → e = p + w) := by
  intro d
  induction d with
  | zero =>
    intro k f τ M hk hf hM
    obtain ⟨f, rfl⟩ : ∃ g, f = g + 1 := ⟨f - 1, by omega⟩
    refine ⟨p + k, by omega, ?_, fun _ => by omega⟩
    unfold f_ObjectFile_isSiteGood_103
    rw [if_pos (nI_le (by omega) (by omega)), ← hM]
    rw [show vI τ 139 (eI τ 139) = τ from vI_self τ 139]
    rfl
  | succ d ih =>
    intro k f τ M hk hf hM
    obtain ⟨f, rfl⟩ : ∃ g, f = g + 1 := ⟨f - 1, by omega⟩
    have hMk : eI τ 139 (p + k) = M (p + k) := by
      rw [hM]
      exact if_neg (by omega)
    unfold f_ObjectFile_isSiteGood_103
    rw [if_neg (nI_ge (by omega) (by omega)), lN_i, nI_add, if_neg (nI_pos (by omega)), c_l hm (by decide), bs, if_neg (nI_ge (by omega) (by decide)), c_aI hm (Or.inr (Or.inl rfl)) (by decide) (by omega), bs, hMk, bs, al_s]
    simp only [bt_0 (show t < 32 by omega)]
    by_cases c1 : bt (M (p + k)) t = false
    · rw [if_pos c1, c1, Bool.not_false, Bool.true_and, c_sI hm (Or.inr (Or.inl rfl)) (by decide) (by omega), bs, nI_add]
      have hM' : eI (vI τ 139 (upd (eI τ 139) (p + k) (M (p + k) ||| (nI 1 <<< (nI t &&& 31))))) 139 = sb M t p (p + (k + 1)) := by
        show u1 τ.2.2.2.1 139 _ 139 = _
        rw [u1_eq, hM]
        have e := sb_s M t p (p + k) (by omega)
        have e2 : sb M t p (p + k) (p + k) = M (p + k) := if_neg (by omega)
        rw [e2] at e
        exact e
      obtain ⟨e, h1, h2, h3⟩ := ih (k + 1) f _ M (by omega) (by omega) hM'
      refine ⟨e, h1, ?_, h3⟩
      rw [h2, vI_vI]
      rfl
    · have c2 : bt (M (p + k)) t = true := by cases hq : bt (M (p + k)) t <;> simp_all
      refine ⟨p + k, by omega, ?_, fun e => ?_⟩
      · rw [if_neg c1, c2, Bool.not_true, Bool.false_and, ← hM, vI_self]
        rfl
      · rw [c2, Bool.not_true, Bool.false_and] at e
        exact absurd e (by decide)
end CSI
