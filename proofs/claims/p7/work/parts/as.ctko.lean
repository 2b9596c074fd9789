/-! takeObject of the class -/
/-- whom member q was taken for -/
def CC1 (τ : px_TT) (fs : px_FS) (s : px_TK) (q : Nat) : Prop := (s.2.2.2 q = none → fI τ (10 + 2 * q) 16 = nI 0) ∧ ∀ i, s.2.2.2 q = some i → ∃ o n b j, obAt fs q = some (o, n, b, false) ∧ 1 ≤ j ∧ j < oM b ∧ yB b j ≠ 0 ∧ fI τ (10 + 2 * q) 16 = nI j ∧ idx (yT b j) 0 (s.1.2.1.map Prod.fst) = some i
/-- whether member q was taken, and for whom -/
def CC2 (τ : px_TT) (fs : px_FS) (s : px_TK) (q : Nat) : Prop := fI τ (10 + 2 * q) 15 = bI (decide (q ∈ s.2.2.1)) ∧ CC1 τ fs s q
theorem CC1_fx {τ τ' : px_TT} {fs : px_FS} {s : px_TK} {q : Nat} (h : CC1 τ fs s q) (e : fI τ' (10 + 2 * q) 16 = fI τ (10 + 2 * q) 16) : CC1 τ' fs s q := by
  refine ⟨fun w => e.trans (h.1 w), fun i w => ?_⟩
  obtain ⟨o, n, b, j, x1, x2, x3, x4, x5, x6⟩ := h.2 i w
  exact ⟨o, n, b, j, x1, x2, x3, x4, e.trans x5, x6⟩
theorem CC2_fx {τ τ' : px_TT} {fs : px_FS} {s : px_TK} {q : Nat} (h : CC2 τ fs s q) (e1 : fI τ' (10 + 2 * q) 15 = fI τ (10 + 2 * q) 15) (e : fI τ' (10 + 2 * q) 16 = fI τ (10 + 2 * q) 16) : CC2 τ' fs s q := ⟨e1.trans h.1, CC1_fx h.2 e⟩
/-- what the class has taken -/
def CK (sk : Nat → Nat × Nat × Nat) (L : Nat) (own : Nat → Nat × Nat) (τ : px_TT) (fs : px_FS) (s : px_TK) : Prop := NP sk L τ own ∧ CLn sk L τ (tB fs s.2.2.1) s.1.2.1 s.1.2.2.1 s.2.1.2.2 ∧ (fI τ 147 14 = nI s.2.2.1.length ∧ fI τ 147 17 = nI s.2.1.2.1) ∧ (∀ t q, s.2.2.1[t]? = some q → RPd τ t (tB fs s.2.2.1 t) (bsO fs q) q s.2.1.1 ∧ RSy τ t (tB fs s.2.2.1 t) s.1.2.1 64 ∧ eN τ 1689 t = some (10 + 2 * q)) ∧ (∀ q, q < 64 → CC2 τ fs s q) ∧ (∀ x, 24 * s.2.2.1.length ≤ x → s.2.1.1 x = false) ∧ s.2.1.2.1 ≤ 24 * s.2.2.1.length
section CTO
variable {F : Nat} {c : px_CT} {sk sk' : Nat → Nat × Nat × Nat} {L L' : Nat} {τ τ' : px_TT} {tb tb' : Nat → Nat → Nat} {xs xs' : px_NL} {od : List Nat} {sg : List (List Nat)} {own : Nat → Nat × Nat} {t N : Nat} {b : Nat → Nat}
theorem CLn_tb (h : CLn sk L τ tb xs od sg) (hb : ∀ (i : Nat) (x : List Nat × px_NR), xs[i]? = some x → ∀ (t k : Nat), x.2.2.2.2.1 = some (t, k) → tb' t = tb t) : CLn sk L τ tb' xs od sg := by
  refine ⟨h.1, fun i x hx => ?_, h.2.2⟩
  obtain ⟨⟨r1, r2, ⟨d1, d2, d3, d4, d5⟩, r4⟩, r5⟩ := h.2.1 i x hx
  refine ⟨⟨r1, r2, ⟨d1, d2, d3, d4, fun q t k e => ?_⟩, r4⟩, r5⟩
  rw [hb i x hx t k e]
  exact d5 q t k e
/-- more names: the old ones stand where they stood -/
def nmE (l l' : List (List Nat)) : Prop := ∀ v, v ∈ l → v ∈ l' ∧ plc v l' = plc v l
theorem nmE_ix {l l' : List (List Nat)} {w : List Nat} {i : Nat} (h : nmE l l') (e : idx w 0 l = some i) : idx w 0 l' = some i := by
  have hm : w ∈ l := idx_iff.mp (by rw [e]; rfl)
  obtain ⟨m', p'⟩ := h w hm
  have hs := idx_iff.mpr m'
  cases e' : idx w 0 l' with
  | none => rw [e'] at hs; cases hs
  | some i' =>
    unfold plc at p'
    rw [e, e'] at p'
    have p' : i' = i := p'
    rw [p']
theorem nmE_refl {l : List (List Nat)} : nmE l l := fun v h => ⟨h, rfl⟩
theorem nmE_trans {l l1 l2 : List (List Nat)} (h : nmE l l1) (g : nmE l1 l2) : nmE l l2 := fun v hv => ⟨(g v (h v hv).1).1, (g v (h v hv).1).2.trans (h v hv).2⟩
theorem nmE_ent {w : List Nat} {l : List (List Nat)} : nmE l (ent w l) := fun v hv => ⟨ent_mem.mpr (Or.inr hv), plc_ent hv⟩
theorem nmE_tk {dr : Nat → Bool} : ∀ (d k : Nat) (s : px_TS), nmE (txs s) (txs (itr (tk1 dr t b) k d s)) := by
  intro d
  induction d with
  | zero => intro k s; exact nmE_refl
  | succ d ih =>
    intro k s
    rw [itr_s]
    refine nmE_trans ?_ (ih (k + 1) _)
    rw [tk1_fst]
    split
    · exact nmE_refl
    · exact nmE_ent
theorem ec_inv {P : px_NL → Prop} (hP : ∀ w xs, P xs → P (entL w xs)) : ∀ (d k : Nat) (xs : px_NL), P xs → P (itr (ec1 b) k d xs) := by
  intro d
  induction d with
  | zero => intro k xs h; exact h
  | succ d ih =>
    intro k xs h
    rw [itr_s]
    refine ih (k + 1) _ ?_
    unfold ec1
    split
    · exact hP _ _ h
    · exact h
theorem RSy_up {j : Nat} (h : RSy τ t b xs j) (h1 : ∀ i, i < xs.length → eN τ' 149 i = eN τ 149 i) (h2 : ∀ k, k < j → eN τ' 1692 (64 * t + k) = eN τ 1692 (64 * t + k)) (hx : nmE (xs.map Prod.fst) (xs'.map Prod.fst)) : RSy τ' t b xs' j := fun k hk => by
  obtain ⟨a1, a2⟩ := h k hk
  refine ⟨?_, fun q => (hx _ (a2 q)).1⟩
  rw [h2 k hk, a1]
  unfold syN
  by_cases ch : hsN b k = true
  · rw [if_pos ch, if_pos ch, (hx _ (a2 ch)).2]
    have hl := plc_lt (a2 ch)
    rw [List.length_map] at hl
    unfold pN
    rw [h1 _ hl]
  · rw [if_neg ch, if_neg ch]
theorem dg_cnt : ∀ (d i : Nat) (s : (Nat → Bool) × Nat × List (List Nat)), (itr (dg1 t b) i d s).2.1 ≤ s.2.1 + d := itr_le (μ := fun (s : (Nat → Bool) × Nat × List (List Nat)) => s.2.1) (fun i s => by
  show (dg1 t b i s).2.1 ≤ s.2.1 + 1
  unfold dg1
  repeat (first | exact Nat.le_refl _ | exact Nat.le_succ _ | split))
theorem dg_0 {n : Nat} {s : (Nat → Bool) × Nat × List (List Nat)} (he : eObj b n = 0) (h1 : 1 ≤ oS b) : itr (dg1 t b) 0 (oS b) s = itr (dg1 t b) 1 (oS b - 1) s := by
  obtain ⟨m, hm⟩ : ∃ m, oS b = m + 1 := ⟨oS b - 1, by omega⟩
  have h0 := (eObj_g he).1
  rw [hm, itr_s, dg1_no (fun q => by rw [h0] at q; exact absurd q.1 (by decide)), Nat.add_sub_cancel]
end CTO
