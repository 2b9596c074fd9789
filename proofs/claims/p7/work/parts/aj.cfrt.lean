/-! what stays while an object is taken -/
def frTk (t N : Nat) (τ τ' : px_TT) : Prop := (∀ a k, a < 1815 → a ≠ 1695 → (a ≠ 148 ∨ k ≠ 2) → (a ≠ 147 ∨ (k ≠ 14 ∧ k ≠ 15 ∧ k ≠ 17)) → (a < 152 + 24 * t ∨ 152 + 24 * t + 24 ≤ a) → (¬ (10 ≤ a ∧ a < 138) ∨ (k ≠ 15 ∧ k ≠ 16)) → fI τ' a k = fI τ a k) ∧ (∀ a k, a < 1815 → a ≠ 1695 → (a < 152 + 24 * t ∨ 152 + 24 * t + 24 ≤ a) → fJ τ' a k = fJ τ a k) ∧ (∀ a k, a < 1815 → (a ≠ 147 ∨ k ≠ 13) → fN τ' a k = fN τ a k) ∧ (∀ a, eI τ' a = eI τ a) ∧ (∀ a, eJ τ' a = eJ τ a) ∧ (∀ a, a ≠ 149 → a ≠ 1692 → a ≠ 1693 → a ≠ 1689 → eN τ' a = eN τ a) ∧ (∀ i, (i < 64 * t ∨ 64 * t + 64 ≤ i) → eN τ' 1692 i = eN τ 1692 i) ∧ (∀ i, i ≠ t → eN τ' 1689 i = eN τ 1689 i) ∧ (∀ i, i < N → eN τ' 149 i = eN τ 149 i) ∧ ∀ B i p, (B = 141 ∨ B = 144) → eN τ B i = some p → (∀ k, fI τ' p k = fI τ p k) ∧ (∀ k, fJ τ' p k = fJ τ p k) ∧ ∀ k, fN τ' p k = fN τ p k
theorem frTk_refl {t N : Nat} {τ : px_TT} : frTk t N τ τ := ⟨fun _ _ _ _ _ _ _ _ => rfl, fun _ _ _ _ _ => rfl, fun _ _ _ _ => rfl, fun _ => rfl, fun _ => rfl, fun _ _ _ _ _ => rfl, fun _ _ => rfl, fun _ _ => rfl, fun _ _ => rfl, fun _ _ _ _ _ => ⟨fun _ => rfl, fun _ => rfl, fun _ => rfl⟩⟩
theorem frTk_trans {t N N' : Nat} {τ τ1 τ2 : px_TT} (h : frTk t N τ τ1) (g : frTk t N' τ1 τ2) (hN : N ≤ N') : frTk t N τ τ2 := by
  obtain ⟨h1, h2, h3, h4, h5, h6, h7, h8, h9, h10⟩ := h
  obtain ⟨g1, g2, g3, g4, g5, g6, g7, g8, g9, g10⟩ := g
  refine ⟨fun a k a1 a2 a3 a4 a5 a6 => (g1 a k a1 a2 a3 a4 a5 a6).trans (h1 a k a1 a2 a3 a4 a5 a6), fun a k a1 a2 a3 => (g2 a k a1 a2 a3).trans (h2 a k a1 a2 a3), fun a k a1 a2 => (g3 a k a1 a2).trans (h3 a k a1 a2), fun a => (g4 a).trans (h4 a), fun a => (g5 a).trans (h5 a), fun a a1 a2 a3 a4 => (g6 a a1 a2 a3 a4).trans (h6 a a1 a2 a3 a4), fun i a1 => (g7 i a1).trans (h7 i a1), fun i a1 => (g8 i a1).trans (h8 i a1), fun i a1 => (g9 i (by omega)).trans (h9 i a1), fun B i p hB hp => ?_⟩
  have x1 := h10 B i p hB hp
  have x2 := g10 B i p hB (by rw [h6 B (by omega) (by omega) (by omega) (by omega)]; exact hp)
  exact ⟨fun k => (x2.1 k).trans (x1.1 k), fun k => (x2.2.1 k).trans (x1.2.1 k), fun k => (x2.2.2 k).trans (x1.2.2 k)⟩
theorem frTk_le {t N N' : Nat} {τ τ1 : px_TT} (h : frTk t N' τ τ1) (hN : N ≤ N') : frTk t N τ τ1 := frTk_trans frTk_refl h hN
section FTK
variable {sk sk' : Nat → Nat × Nat × Nat} {L L' : Nat} {τ τ' : px_TT} {own : Nat → Nat × Nat} {gs : List (List Nat × Int64)} {ws : List (List Nat)} {t N : Nat}
theorem frTk_Sy (f : frSy t N τ τ') (hs : ∀ i, i < N → ∃ p, eN τ 149 i = some p) : frTk t N τ τ' := by
  obtain ⟨f1, f2, f3, f4, f5, f6, f7, f8⟩ := f
  have e149 : ∀ i, i < N → eN τ' 149 i = eN τ 149 i := fun i hi => by
    obtain ⟨p, hp⟩ := hs i hi
    rw [hp]
    exact (f8 149 i p (Or.inr (Or.inr ⟨rfl, hi⟩)) hp).1
  exact ⟨fun a k a1 a2 a3 _ _ _ => f1 a k a1 a2 a3, fun a k a1 a2 _ => f2 a k a1 a2, fun a k a1 _ => f3 a k a1, f4, f5, fun a a1 a2 _ _ => f6 a a1 a2, f7, fun i _ => by rw [f6 1689 (by decide) (by decide)], e149, fun B i p hB hp => (f8 B i p (by omega) hp).2⟩
theorem frTk_Op (hn : NP sk L τ own) (f : frOp t τ τ') (ht : t < 64) : frTk t N τ τ' := by
  obtain ⟨f1, f2, f3, f4, f5, f6⟩ := f
  refine ⟨fun a k _ _ _ _ a5 _ => f1 a k a5, fun a k _ _ a5 => f2 a k a5, fun a k _ _ => f3 a k, f4, f5, fun a _ _ _ _ => f6 a, fun i _ => by rw [f6], fun i _ => by rw [f6], fun i _ => by rw [f6], fun B i p hB hp => ?_⟩
  have h1 := (hn B i p (by omega) hp).1
  exact ⟨fun k => f1 p k (by omega), fun k => f2 p k (by omega), fun k => f3 p k⟩
theorem frTk_X {i p : Nat} (hn : NP sk L τ own) (hp : eN τ 149 i = some p) (f : frX p τ τ') : frTk t N τ τ' := by
  have h1 := (hn 149 i p (Or.inr (Or.inr rfl)) hp).1
  obtain ⟨f1, f2, f3, f4, f5, f6, f7⟩ := f
  refine ⟨fun a k a1 _ _ a4 _ _ => f1 a k (by omega) (a4.elim Or.inl (fun q => Or.inr q.2.1)), fun a k a1 _ _ => f2 a k (by omega), fun a k a1 _ => f3 a k (by omega), f5, f6, fun a _ _ a3 _ => f7 a a3, fun i _ => by rw [f7 _ (by decide)], fun i _ => by rw [f7 _ (by decide)], fun i _ => by rw [f7 _ (by decide)], fun B j q hB hq => ?_⟩
  have hB3 : B = 141 ∨ B = 144 ∨ B = 149 := by omega
  have h2 := (hn B j q hB3 hq).1
  have hne : q ≠ p := NP_ne hn hB3 (Or.inr (Or.inr rfl)) hq hp (fun e => by omega)
  exact ⟨fun k => f1 q k hne (Or.inl (by omega)), fun k => f2 q k hne, fun k => f3 q k hne⟩
/-- a number of the link's own, or a member's mark -/
theorem frTk_I {a k : Nat} {v : Int32} (hn : NP sk L τ own) (h : (a = 147 ∧ (k = 14 ∨ k = 15 ∨ k = 17)) ∨ ((10 ≤ a ∧ a < 138) ∧ (k = 15 ∨ k = 16))) : frTk t N τ (tI τ a k v) := by
  refine ⟨fun x y _ _ _ a4 _ a6 => tI_ne (by omega), fun _ _ _ _ _ => rfl, fun _ _ _ _ => rfl, fun _ => rfl, fun _ => rfl, fun _ _ _ _ _ => rfl, fun _ _ => rfl, fun _ _ => rfl, fun _ _ => rfl, fun B i p hB hp => ?_⟩
  have h1 := (hn B i p (by omega) hp).1
  exact ⟨fun y => tI_ne (Or.inl (by omega)), fun _ => rfl, fun _ => rfl⟩
theorem frTk_b {v : Option Nat} (hn : NP sk L τ own) : frTk t N τ (tN τ 147 13 v) := by
  refine ⟨fun _ _ _ _ _ _ _ _ => rfl, fun _ _ _ _ _ => rfl, fun x y _ h => ?_, fun _ => rfl, fun _ => rfl, fun _ _ _ _ _ => rfl, fun _ _ => rfl, fun _ _ => rfl, fun _ _ => rfl, fun B i p hB hp => ?_⟩
  · rw [fN_tN, if_neg (by omega)]
  · have h1 := (hn B i p (by omega) hp).1
    exact ⟨fun _ => rfl, fun _ => rfl, fun y => by rw [fN_tN, if_neg (by omega)]⟩
theorem frTk_o {v : Option Nat} : frTk t N τ (vN τ 1689 (va_up (eN τ 1689) t v)) := by
  have hne : ∀ a, a ≠ 1689 → eN (vN τ 1689 (va_up (eN τ 1689) t v)) a = eN τ a := fun a h => u1_ne h
  have hat : eN (vN τ 1689 (va_up (eN τ 1689) t v)) 1689 = va_up (eN τ 1689) t v := (u1_eq : u1 τ.2.2.2.2.2 1689 (va_up (eN τ 1689) t v) 1689 = _)
  exact ⟨fun _ _ _ _ _ _ _ _ => rfl, fun _ _ _ _ _ => rfl, fun _ _ _ _ => rfl, fun _ => rfl, fun _ => rfl, fun a _ _ _ a4 => hne a a4, fun i _ => by rw [hne _ (by decide)], fun i hi => by rw [hat, va_up_n hi], fun i _ => by rw [hne _ (by decide)], fun B i p hB hp => ⟨fun _ => rfl, fun _ => rfl, fun _ => rfl⟩⟩
theorem GR_mw (h : GR τ) (hN : ∀ a k, a < 1726 → (a ≠ 147 ∨ k ≠ 13) → fN τ' a k = fN τ a k) (hI : ∀ a k, a < 138 → k < 3 → fI τ' a k = fI τ a k) (h9 : eN τ' 9 = eN τ 9) (h151 : eN τ' 151 = eN τ 151) : GR τ' := by
  have hg : ∀ x, x ∈ grl → x.1 < 1726 ∧ (x.1 ≠ 147 ∨ x.2.1 ≠ 13) := by decide +kernel
  refine ⟨fun x hx => (hN _ _ (hg x hx).1 (hg x hx).2).trans (h.1 x hx), fun i hi => ?_, ?_⟩
  · obtain ⟨a1, a2, a3, a4, a5⟩ := h.2.1 i hi
    exact ⟨(hN _ _ (by omega) (by omega)).trans a1, (hN _ _ (by omega) (by omega)).trans a2, by rw [h9]; exact a3, (hI _ _ (by omega) (by decide)).trans a4, (hI _ _ (by omega) (by decide)).trans a5⟩
  · rw [h151]; exact h.2.2
theorem GR_Tk (h : GR τ) (f : frTk t N τ τ') : GR τ' := GR_mw h (fun a k ha h2 => f.2.2.1 a k (by omega) h2) (fun a k ha hk => f.1 a k (by omega) (by omega) (Or.inl (by omega)) (Or.inl (by omega)) (by omega) (Or.inr (by omega))) (f.2.2.2.2.2.1 9 (by decide) (by decide) (by decide) (by decide)) (f.2.2.2.2.2.1 151 (by decide) (by decide) (by decide) (by decide))
theorem SF_Tk (f : frTk t N τ τ') : SF τ τ' := ⟨fun a k h hk => f.1 a k (by omega) (by omega) (Or.inl (by omega)) (Or.inl (by omega)) (by omega) (Or.inr (by omega)), fun a k h => f.2.2.1 a k (by omega) (Or.inl (by omega)), fun a _ => f.2.2.2.1 a⟩
theorem CN_Tk {N' A : Nat} (h : CN sk L τ N' A ws) (e : EX sk L sk' L') (f : frTk t N τ τ') (hN : N' = 140 ∨ N' = 143) (hA : A = 141 ∨ A = 144) : CN sk' L' τ' N' A ws := by
  obtain ⟨s1, s2, s3, s4, s5, s6, s7⟩ := h
  have eA : eN τ' A = eN τ A := f.2.2.2.2.2.1 A (by omega) (by omega) (by omega) (by omega)
  refine ⟨ob_ex s1 e, (f.2.2.1 N' 0 (by omega) (Or.inl (by omega))).trans s2, ar_ex s3 e, s4, s5, (f.1 N' 2 (by omega) (by omega) (Or.inl (by omega)) (Or.inl (by omega)) (by omega) (by omega)).trans s6, fun i w hw => ?_⟩
  obtain ⟨z1, z2, z3, z4⟩ := s7 i w hw
  have hz := f.2.2.2.2.2.2.2.2.2 A i _ hA z2
  rw [eA]
  exact ⟨z1, z2, ob_ex z3 e, (hz.2.1 0).trans z4.1, (hz.2.1 1).trans z4.2.1, (hz.2.1 2).trans z4.2.2.1, (hz.1 3).trans z4.2.2.2⟩
theorem CG_Tk (h : CG sk L τ gs) (e : EX sk L sk' L') (f : frTk t N τ τ') : CG sk' L' τ' gs := by
  refine ⟨CN_Tk h.1 e f (Or.inl rfl) (Or.inl rfl), fun i x hx => ?_⟩
  have hm : (gs.map Prod.fst)[i]? = some x.1 := by rw [List.getElem?_map, hx]; rfl
  have hp : eN τ 141 i = some ((eN τ 141 i).getD 0) := (h.1.2.2.2.2.2.2 i _ hm).2.1
  have hz := f.2.2.2.2.2.2.2.2.2 141 i _ (Or.inl rfl) hp
  rw [f.2.2.2.2.2.1 141 (by decide) (by decide) (by decide) (by decide), hz.2.1 7]
  exact h.2 i x hx
theorem CW_Tk (h : CW sk L τ ws) (e : EX sk L sk' L') (f : frTk t N τ τ') : CW sk' L' τ' ws := CN_Tk h e f (Or.inr rfl) (Or.inr rfl)
end FTK
