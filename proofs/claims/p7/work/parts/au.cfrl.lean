/-! what stays while objects are taken -/
def frLn (N : Nat) (τ τ' : px_TT) : Prop := (∀ a k, a < 1815 → a ≠ 1695 → (a ≠ 148 ∨ k ≠ 2) → (a ≠ 147 ∨ (k ≠ 14 ∧ k ≠ 15 ∧ k ≠ 17)) → (a < 152 ∨ 1688 ≤ a) → (¬ (10 ≤ a ∧ a < 138) ∨ (k ≠ 15 ∧ k ≠ 16)) → fI τ' a k = fI τ a k) ∧ (∀ a k, a < 1815 → a ≠ 1695 → (a < 152 ∨ 1688 ≤ a) → fJ τ' a k = fJ τ a k) ∧ (∀ a k, a < 1815 → (a ≠ 147 ∨ k ≠ 13) → fN τ' a k = fN τ a k) ∧ (∀ a, eI τ' a = eI τ a) ∧ (∀ a, eJ τ' a = eJ τ a) ∧ (∀ a, a ≠ 149 → a ≠ 1692 → a ≠ 1693 → a ≠ 1689 → eN τ' a = eN τ a) ∧ (∀ i, i < N → eN τ' 149 i = eN τ 149 i) ∧ ∀ B i p, (B = 141 ∨ B = 144) → eN τ B i = some p → (∀ k, fI τ' p k = fI τ p k) ∧ (∀ k, fJ τ' p k = fJ τ p k) ∧ ∀ k, fN τ' p k = fN τ p k
theorem frLn_refl {N : Nat} {τ : px_TT} : frLn N τ τ := ⟨fun _ _ _ _ _ _ _ _ => rfl, fun _ _ _ _ _ => rfl, fun _ _ _ _ => rfl, fun _ => rfl, fun _ => rfl, fun _ _ _ _ _ => rfl, fun _ _ => rfl, fun _ _ _ _ _ => ⟨fun _ => rfl, fun _ => rfl, fun _ => rfl⟩⟩
theorem frLn_trans {N N' : Nat} {τ τ1 τ2 : px_TT} (h : frLn N τ τ1) (g : frLn N' τ1 τ2) (hN : N ≤ N') : frLn N τ τ2 := by
  obtain ⟨h1, h2, h3, h4, h5, h6, h9, h10⟩ := h
  obtain ⟨g1, g2, g3, g4, g5, g6, g9, g10⟩ := g
  refine ⟨fun a k a1 a2 a3 a4 a5 a6 => (g1 a k a1 a2 a3 a4 a5 a6).trans (h1 a k a1 a2 a3 a4 a5 a6), fun a k a1 a2 a3 => (g2 a k a1 a2 a3).trans (h2 a k a1 a2 a3), fun a k a1 a2 => (g3 a k a1 a2).trans (h3 a k a1 a2), fun a => (g4 a).trans (h4 a), fun a => (g5 a).trans (h5 a), fun a a1 a2 a3 a4 => (g6 a a1 a2 a3 a4).trans (h6 a a1 a2 a3 a4), fun i a1 => (g9 i (by omega)).trans (h9 i a1), fun B i p hB hp => ?_⟩
  have x1 := h10 B i p hB hp
  have x2 := g10 B i p hB (by rw [h6 B (by omega) (by omega) (by omega) (by omega)]; exact hp)
  exact ⟨fun k => (x2.1 k).trans (x1.1 k), fun k => (x2.2.1 k).trans (x1.2.1 k), fun k => (x2.2.2 k).trans (x1.2.2 k)⟩
section FLN
variable {sk sk' : Nat → Nat × Nat × Nat} {L L' : Nat} {τ τ' : px_TT} {own : Nat → Nat × Nat} {gs : List (List Nat × Int64)} {ws : List (List Nat)} {t N : Nat}
theorem frLn_Tk (f : frTk t N τ τ') (ht : t < 64) : frLn N τ τ' := ⟨fun a k a1 a2 a3 a4 a5 a6 => f.1 a k a1 a2 a3 a4 (by omega) a6, fun a k a1 a2 a3 => f.2.1 a k a1 a2 (by omega), f.2.2.1, f.2.2.2.1, f.2.2.2.2.1, f.2.2.2.2.2.1, f.2.2.2.2.2.2.2.2.1, f.2.2.2.2.2.2.2.2.2⟩
theorem GR_Ln (h : GR τ) (f : frLn N τ τ') : GR τ' := GR_mw h (fun a k ha h2 => f.2.2.1 a k (by omega) h2) (fun a k ha hk => f.1 a k (by omega) (by omega) (Or.inl (by omega)) (Or.inl (by omega)) (by omega) (Or.inr (by omega))) (f.2.2.2.2.2.1 9 (by decide) (by decide) (by decide) (by decide)) (f.2.2.2.2.2.1 151 (by decide) (by decide) (by decide) (by decide))
theorem SF_Ln (f : frLn N τ τ') : SF τ τ' := ⟨fun a k h hk => f.1 a k (by omega) (by omega) (Or.inl (by omega)) (Or.inl (by omega)) (by omega) (Or.inr (by omega)), fun a k h => f.2.2.1 a k (by omega) (Or.inl (by omega)), fun a _ => f.2.2.2.1 a⟩
theorem CN_Ln {N' A : Nat} (h : CN sk L τ N' A ws) (e : EX sk L sk' L') (f : frLn N τ τ') (hN : N' = 140 ∨ N' = 143) (hA : A = 141 ∨ A = 144) : CN sk' L' τ' N' A ws := by
  obtain ⟨s1, s2, s3, s4, s5, s6, s7⟩ := h
  have eA : eN τ' A = eN τ A := f.2.2.2.2.2.1 A (by omega) (by omega) (by omega) (by omega)
  refine ⟨ob_ex s1 e, (f.2.2.1 N' 0 (by omega) (Or.inl (by omega))).trans s2, ar_ex s3 e, s4, s5, (f.1 N' 2 (by omega) (by omega) (Or.inl (by omega)) (Or.inl (by omega)) (by omega) (by omega)).trans s6, fun i w hw => ?_⟩
  obtain ⟨z1, z2, z3, z4⟩ := s7 i w hw
  have hz := f.2.2.2.2.2.2.2 A i _ hA z2
  rw [eA]
  exact ⟨z1, z2, ob_ex z3 e, (hz.2.1 0).trans z4.1, (hz.2.1 1).trans z4.2.1, (hz.2.1 2).trans z4.2.2.1, (hz.1 3).trans z4.2.2.2⟩
theorem CG_Ln (h : CG sk L τ gs) (e : EX sk L sk' L') (f : frLn N τ τ') : CG sk' L' τ' gs := by
  refine ⟨CN_Ln h.1 e f (Or.inl rfl) (Or.inl rfl), fun i x hx => ?_⟩
  have hm : (gs.map Prod.fst)[i]? = some x.1 := by rw [List.getElem?_map, hx]; rfl
  have hp : eN τ 141 i = some ((eN τ 141 i).getD 0) := (h.1.2.2.2.2.2.2 i _ hm).2.1
  have hz := f.2.2.2.2.2.2.2 141 i _ (Or.inl rfl) hp
  rw [f.2.2.2.2.2.1 141 (by decide) (by decide) (by decide) (by decide), hz.2.1 7]
  exact h.2 i x hx
theorem CW_Ln (h : CW sk L τ ws) (e : EX sk L sk' L') (f : frLn N τ τ') : CW sk' L' τ' ws := CN_Ln h e f (Or.inr rfl) (Or.inr rfl)
/-- a member's mark -/
theorem frLn_I {a k : Nat} {v : Int32} (hn : NP sk L τ own) (h : (10 ≤ a ∧ a < 138) ∧ (k = 15 ∨ k = 16)) : frLn N τ (tI τ a k v) := frLn_Tk (t := 0) (frTk_I hn (Or.inr h)) (by decide)
end FLN
/-- room for the names of the objects that are not taken yet -/
def omQ (fs : px_FS) (q : Nat) : Nat := ((obAt fs q).map (fun y => if y.2.2.2 = true then 0 else oM y.2.2.1)).getD 0
def rmT (fs : px_FS) (tq : List Nat) : Nat := smN (omQ fs) 64 - (tq.map (omQ fs)).sum
theorem rmT_tk {fs : px_FS} {tq : List Nat} {q o n : Nat} {b : Nat → Nat} (hnd : tq.Nodup) (h64 : ∀ x, x ∈ tq → x < 64) (hq : q < 64) (hn : q ∉ tq) (ho : obAt fs q = some (o, n, b, false)) : rmT fs tq = rmT fs (tq ++ [q]) + oM b := by
  have e : omQ fs q = oM b := by unfold omQ; rw [ho]; rfl
  have h := sum_nd (g := omQ fs) 64 (tq ++ [q]) (List.nodup_append.mpr ⟨hnd, List.Pairwise.cons (fun _ h => nomatch h) List.Pairwise.nil, fun a ha b' hb' e => by
    rw [List.mem_singleton] at hb'
    rw [e, hb'] at ha
    exact hn ha⟩) (fun x hx => by
    rcases List.mem_append.mp hx with h | h
    · exact h64 x h
    · rw [List.mem_singleton] at h; omega)
  unfold rmT
  rw [List.map_append, List.sum_append] at h ⊢
  have e2 : ([q].map (omQ fs)).sum = oM b := by rw [← e]; exact Nat.add_zero _
  rw [e2] at h ⊢
  omega
