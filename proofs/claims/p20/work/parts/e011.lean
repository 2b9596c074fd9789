section
/-! the class's members -/
/-- where member q stands in the class's store -/
def bsO (fs : px_FS) (q : Nat) : Nat := off fs (q / 8) + (((obAt fs q).getD (0, 0, fun _ => 0, false)).1 - 8192 * (q / 8))
section CMB
variable {sk : Nat → Nat × Nat × Nat} {L : Nat} {τ : px_TT} {fs : px_FS} {q o n : Nat} {b : Nat → Nat}
theorem mD_at {f base : Nat} {ar : Bool} {S : Nat → Int32} : ∀ (l : List (Nat × Nat × Bool)) (k j : Nat) (x : Nat × Nat × Bool), mD sk L τ f base ar S k l → l[j]? = some x → fI τ (10 + 2 * (8 * f + (k + j))) 4 = nI (mkd ar x.2.2) ∧ fI τ (10 + 2 * (8 * f + (k + j))) 5 = nI (base + x.1) ∧ fI τ (10 + 2 * (8 * f + (k + j))) 6 = nI x.2.1 ∧ (x.2.2 = false → cD sk L τ (10 + 2 * (8 * f + (k + j))) (11 + 2 * (8 * f + (k + j))) (base + x.1) x.2.1 S)
  | [], k, j, x, h, hx => by rw [List.getElem?_nil] at hx; cases hx
  | y :: l, k, 0, x, h, hx => by
    rw [List.getElem?_cons_zero] at hx
    have hx : y = x := Option.some.inj hx
    rw [← hx]
    unfold mD at h
    exact h.1
  | y :: l, k, j + 1, x, h, hx => by
    rw [List.getElem?_cons_succ] at hx
    unfold mD at h
    have := mD_at l (k + 1) j x h.2 hx
    rw [show k + 1 + j = k + (j + 1) by omega] at this
    exact this
theorem mD_no {f base : Nat} {ar : Bool} {S : Nat → Int32} : ∀ (l : List (Nat × Nat × Bool)) (k j : Nat), mD sk L τ f base ar S k l → k + l.length ≤ j → j < 8 → fI τ (10 + 2 * (8 * f + j)) 4 = nI 0
  | [], k, j, h, h1, h2 => h j h1 h2
  | y :: l, k, j, h, h1, h2 => by
    unfold mD at h
    rw [List.length_cons] at h1
    exact mD_no l (k + 1) j h.2 (by omega) h2
/-- a member that is an object -/
theorem CF_ob {z : Bool} (h : CF sk L τ fs) (hq : obAt fs q = some (o, n, b, z)) : q < 64 ∧ (∃ x, fs[q / 8]? = some x ∧ fI τ (10 + 2 * q) 4 = nI (mkd (isAr x.2 x.1) z)) ∧ cb (eI τ 8) (bsO fs q) n = b ∧ bsO fs q + n ≤ off fs fs.length ∧ off fs fs.length ≤ 65536 ∧ (z = false → cD sk L τ (10 + 2 * q) (11 + 2 * q) (bsO fs q) n (eI τ 8)) := by
  have hoff := CF_off h (Nat.le_refl _)
  have hb : bsO fs q = off fs (q / 8) + (o - 8192 * (q / 8)) := by unfold bsO; rw [hq]; rfl
  obtain ⟨h1, h2, h3, h4, h5, h6, h7⟩ := h
  unfold obAt at hq
  cases e1 : fs[q / 8]? with
  | none => rw [e1] at hq; cases hq
  | some x =>
    rw [e1] at hq
    have hf := (List.getElem?_eq_some_iff.mp e1).1
    obtain ⟨c1, c2, c3, l, c4, c5⟩ := h6 _ x e1
    have hq : (match fMem x.2 x.1 with
      | none => none
      | some l => match l[q % 8]? with
        | none => none
        | some y => some (8192 * (q / 8) + y.1, y.2.1, sub x.2 y.1 y.2.1, y.2.2)) = some (o, n, b, z) := hq
    rw [c4] at hq
    have hq : (match l[q % 8]? with
        | none => none
        | some y => some (8192 * (q / 8) + y.1, y.2.1, sub x.2 y.1 y.2.1, y.2.2)) = some (o, n, b, z) := hq
    cases e2 : l[q % 8]? with
    | none => rw [e2] at hq; cases hq
    | some y =>
      rw [e2] at hq
      have hq : (8192 * (q / 8) + y.1, y.2.1, sub x.2 y.1 y.2.1, y.2.2) = (o, n, b, z) := Option.some.inj hq
      have q1 : 8192 * (q / 8) + y.1 = o := congrArg (fun v => v.1) hq
      have q2 : y.2.1 = n := congrArg (fun v => v.2.1) hq
      have q3 : sub x.2 y.1 y.2.1 = b := congrArg (fun v => v.2.2.1) hq
      have q4 : y.2.2 = z := congrArg (fun v => v.2.2.2) hq
      have hl := (fMem_le c4).2 y (List.mem_of_getElem? e2)
      have hm := mD_at l 0 (q % 8) y c5 e2
      rw [Nat.zero_add, show 8 * (q / 8) + q % 8 = q by omega, q2, q4] at hm
      have hbs : bsO fs q = off fs (q / 8) + y.1 := by rw [hb]; omega
      rw [← hbs] at hm
      have ho1 := off_s e1
      have ho2 := off_mono (fs := fs) (fs.length - (q / 8 + 1)) (q / 8 + 1) (by omega)
      rw [show q / 8 + 1 + (fs.length - (q / 8 + 1)) = fs.length by omega] at ho2
      refine ⟨by omega, ⟨x, rfl, hm.1⟩, ?_, by omega, by omega, hm.2.2.2⟩
      rw [hbs, ← q3, ← q2, ← c2]
      exact cb_sub hl
/-- no member there -/
theorem CF_no (h : CF sk L τ fs) (hq : obAt fs q = none) (h64 : q < 64) : fI τ (10 + 2 * q) 4 = nI 0 := by
  obtain ⟨h1, h2, h3, h4, h5, h6, h7⟩ := h
  unfold obAt at hq
  cases e1 : fs[q / 8]? with
  | none =>
    have := h7 (q / 8) (q % 8) (List.getElem?_eq_none_iff.mp e1) (by omega) (by omega)
    rw [show 8 * (q / 8) + q % 8 = q by omega] at this
    exact this
  | some x =>
    rw [e1] at hq
    obtain ⟨c1, c2, c3, l, c4, c5⟩ := h6 _ x e1
    have hq : (match fMem x.2 x.1 with
      | none => none
      | some l => match l[q % 8]? with
        | none => none
        | some y => some (8192 * (q / 8) + y.1, y.2.1, sub x.2 y.1 y.2.1, y.2.2)) = none := hq
    rw [c4] at hq
    have hq : (match l[q % 8]? with
        | none => none
        | some y => some (8192 * (q / 8) + y.1, y.2.1, sub x.2 y.1 y.2.1, y.2.2)) = none := hq
    cases e2 : l[q % 8]? with
    | some y => rw [e2] at hq; cases hq
    | none =>
      have := mD_no l 0 (q % 8) c5 (by have := List.getElem?_eq_none_iff.mp e2; omega) (by omega)
      rw [show 8 * (q / 8) + q % 8 = q by omega] at this
      exact this
end CMB
end
section
/-! takeObject of the class -/
/-- whom member q was taken for -/
def CC1 (τ : px_TT) (fs : px_FS) (s : px_TK) (q : Nat) : Prop := (s.2.2.2 q = none → fI τ (10 + 2 * q) 16 = nI 0) ∧ ∀ i, s.2.2.2 q = some i → ∃ o n b j, obAt fs q = some (o, n, b, false) ∧ 1 ≤ j ∧ j < oM b ∧ yB b j ≠ 0 ∧ fI τ (10 + 2 * q) 16 = nI j ∧ idx (yT b j) 0 (s.1.2.1.map Prod.fst) = some i
/-- whether member q was taken, and for whom -/
def CC2 (τ : px_TT) (fs : px_FS) (s : px_TK) (q : Nat) : Prop := fI τ (10 + 2 * q) 15 = bI (decide (q ∈ s.2.2.1)) ∧ CC1 τ fs s q
theorem CC1_fx {τ τ' : px_TT} {fs : px_FS} {s : px_TK} {q : Nat} (h : CC1 τ fs s q) (e : fI τ' (10 + 2 * q) 16 = fI τ (10 + 2 * q) 16) : CC1 τ' fs s q := by
  refine ⟨fun w => e.trans (h.1 w), fun i w => ?_⟩
  obtain ⟨o, n, b, j, x1, x2, x3, x4, x5, x6⟩ := h.2 i w
  exact ⟨o, n, b, j, x1, x2, x3, x4, e.trans x5, x6⟩
theorem CC2_fx {τ τ' : px_TT} {fs : px_FS} {s : px_TK} {q : Nat} (h : CC2 τ fs s q) (e1 : fI τ' (10 + 2 * q) 15 = fI τ (10 + 2 * q) 15) (e : fI τ' (10 + 2 * q) 16 = fI τ (10 + 2 * q) 16) : CC2 τ' fs s q := ⟨e1.trans h.1, CC1_fx h.2 e⟩
/-- what the class has taken -/
def CK (sk : Nat → Nat × Nat × Nat) (L : Nat) (own : Nat → Nat × Nat) (τ : px_TT) (fs : px_FS) (s : px_TK) : Prop := NP sk L τ own ∧ CLn sk L τ (tB fs s.2.2.1) s.1.2.1 s.1.2.2.1 s.2.1.2.2 ∧ (fI τ 147 14 = nI s.2.2.1.length ∧ fI τ 147 17 = nI s.2.1.2.1) ∧ (∀ t q, s.2.2.1[t]? = some q → RPd τ t (tB fs s.2.2.1 t) (bsO fs q) q s.2.1.1 ∧ RSy τ t (tB fs s.2.2.1 t) s.1.2.1 64 ∧ eN τ 1689 t = some (10 + 2 * q)) ∧ (∀ q, q < 64 → CC2 τ fs s q) ∧ (∀ x, 24 * s.2.2.1.length ≤ x → s.2.1.1 x = false) ∧ s.2.1.2.1 ≤ 24 * s.2.2.1.length
section CTO
variable {F : Nat} {c : px_CT} {sk sk' : Nat → Nat × Nat × Nat} {L L' : Nat} {τ τ' : px_TT} {tb tb' : Nat → Nat → Nat} {xs xs' : px_NL} {od : List Nat} {sg : List (List Nat)} {own : Nat → Nat × Nat} {t N : Nat} {b : Nat → Nat}
theorem CLn_tb (h : CLn sk L τ tb xs od sg) (hb : ∀ (i : Nat) (x : List Nat × px_NR), xs[i]? = some x → ∀ (t k : Nat), x.2.2.2.2.1 = some (t, k) → tb' t = tb t) : CLn sk L τ tb' xs od sg := by
  refine ⟨h.1, fun i x hx => ?_, h.2.2⟩
  obtain ⟨⟨r1, r2, ⟨d1, d2, d3, d4, d5⟩, r4⟩, r5⟩ := h.2.1 i x hx
  refine ⟨⟨r1, r2, ⟨d1, d2, d3, d4, fun q t k e => ?_⟩, r4⟩, r5⟩
  rw [hb i x hx t k e]
  exact d5 q t k e
/-- more names: the old ones stand where they stood -/
def nmE (l l' : List (List Nat)) : Prop := ∀ v, v ∈ l → v ∈ l' ∧ plc v l' = plc v l
theorem nmE_ix {l l' : List (List Nat)} {w : List Nat} {i : Nat} (h : nmE l l') (e : idx w 0 l = some i) : idx w 0 l' = some i := by
  have hm : w ∈ l := idx_iff.mp (by rw [e]; rfl)
  obtain ⟨m', p'⟩ := h w hm
  have hs := idx_iff.mpr m'
  cases e' : idx w 0 l' with
  | none => rw [e'] at hs; cases hs
  | some i' =>
    unfold plc at p'
    rw [e, e'] at p'
    have p' : i' = i := p'
    rw [p']
theorem nmE_refl {l : List (List Nat)} : nmE l l := fun v h => ⟨h, rfl⟩
theorem nmE_trans {l l1 l2 : List (List Nat)} (h : nmE l l1) (g : nmE l1 l2) : nmE l l2 := fun v hv => ⟨(g v (h v hv).1).1, (g v (h v hv).1).2.trans (h v hv).2⟩
theorem nmE_ent {w : List Nat} {l : List (List Nat)} : nmE l (ent w l) := fun v hv => ⟨ent_mem.mpr (Or.inr hv), plc_ent hv⟩
theorem nmE_tk {dr : Nat → Bool} : ∀ (d k : Nat) (s : px_TS), nmE (txs s) (txs (itr (tk1 dr t b) k d s)) := by
  intro d
  induction d with
  | zero => intro k s; exact nmE_refl
  | succ d ih =>
    intro k s
    rw [itr_s]
    refine nmE_trans ?_ (ih (k + 1) _)
    rw [tk1_fst]
    split
    · exact nmE_refl
    · exact nmE_ent
theorem ec_inv {P : px_NL → Prop} (hP : ∀ w xs, P xs → P (entL w xs)) : ∀ (d k : Nat) (xs : px_NL), P xs → P (itr (ec1 b) k d xs) := by
  intro d
  induction d with
  | zero => intro k xs h; exact h
  | succ d ih =>
    intro k xs h
    rw [itr_s]
    refine ih (k + 1) _ ?_
    unfold ec1
    split
    · exact hP _ _ h
    · exact h
theorem RSy_up {j : Nat} (h : RSy τ t b xs j) (h1 : ∀ i, i < xs.length → eN τ' 149 i = eN τ 149 i) (h2 : ∀ k, k < j → eN τ' 1692 (64 * t + k) = eN τ 1692 (64 * t + k)) (hx : nmE (xs.map Prod.fst) (xs'.map Prod.fst)) : RSy τ' t b xs' j := fun k hk => by
  obtain ⟨a1, a2⟩ := h k hk
  refine ⟨?_, fun q => (hx _ (a2 q)).1⟩
  rw [h2 k hk, a1]
  unfold syN
  by_cases ch : hsN b k = true
  · rw [if_pos ch, if_pos ch, (hx _ (a2 ch)).2]
    have hl := plc_lt (a2 ch)
    rw [List.length_map] at hl
    unfold pN
    rw [h1 _ hl]
  · rw [if_neg ch, if_neg ch]
theorem dg_cnt : ∀ (d i : Nat) (s : (Nat → Bool) × Nat × List (List Nat)), (itr (dg1 t b) i d s).2.1 ≤ s.2.1 + d := itr_le (μ := fun (s : (Nat → Bool) × Nat × List (List Nat)) => s.2.1) (fun i s => by
  show (dg1 t b i s).2.1 ≤ s.2.1 + 1
  unfold dg1
  repeat (first | exact Nat.le_refl _ | exact Nat.le_succ _ | split))
theorem dg_0 {n : Nat} {s : (Nat → Bool) × Nat × List (List Nat)} (he : eObj b n = 0) (h1 : 1 ≤ oS b) : itr (dg1 t b) 0 (oS b) s = itr (dg1 t b) 1 (oS b - 1) s := by
  obtain ⟨m, hm⟩ : ∃ m, oS b = m + 1 := ⟨oS b - 1, by omega⟩
  have h0 := (eObj_g he).1
  rw [hm, itr_s, dg1_no (fun q => by rw [h0] at q; exact absurd q.1 (by decide)), Nat.add_sub_cancel]
end CTO
end
section
/-! takeObject of the class, whole -/
section CTP
variable {F : Nat} {c : px_CT} {sk : Nat → Nat × Nat × Nat} {L : Nat} {τ : px_TT} {own : Nat → Nat × Nat} {fs : px_FS} {s : px_TK} {q o n k : Nat} {b : Nat → Nat}
theorem BK_lt (hb : BK fs s) (hq : q < 64) (hn : q ∉ s.2.2.1) : s.2.2.1.length < 64 := by
  have h : (s.2.2.1 ++ [q]).length ≤ 64 := nodup_le 0 64 _ (List.nodup_append.mpr ⟨hb.2.2.2.2.2.1, List.Pairwise.cons (fun _ h => nomatch h) List.Pairwise.nil, fun a ha b' hb' e => by
    rw [List.mem_singleton] at hb'
    rw [e, hb'] at ha
    exact hn ha⟩) (fun x hx => by
    rcases List.mem_append.mp hx with h | h
    · have := (hb.2.2.2.2.2.2 x h).1
      omega
    · rw [List.mem_singleton] at h
      omega)
  rw [List.length_append, List.length_singleton] at h
  omega
theorem k_takeObject (hS : GS sk L) (hF : 65536 < F) (hR : GR τ) (hf : CF sk L τ fs) (hk : CK sk L own τ fs s) (hW : WK fs s) (h3 : AL (fun x => x.2.1 ≤ 3) s.1.2.1) (hs0 : s.1.1 = 0) (hq : obAt fs q = some (o, n, b, false)) (hnq : q ∉ s.2.2.1) (hm : RMk sk L (k + oM b)) : ∃ sk' L' τ' own', f_Link_takeObject F c 147 (some (10 + 2 * q)) (cH sk L τ) = some (bI (decide ((tkM b q s).1.1 ≠ 1)), cH sk' L' τ') ∧ EX sk L sk' L' ∧ RMk sk' L' k ∧ CK sk' L' own' τ' fs (tkM b q s) ∧ frTk s.2.2.1.length s.1.2.1.length τ τ' ∧ (((tkM b q s).1.1 = 0 ∧ fN τ' 147 13 = fN τ 147 13) ∨ ((tkM b q s).1.1 = 1 ∧ BL sk' L' τ')) := by
  obtain ⟨h64, hkd, hcb, hss, hss2, hD⟩ := CF_ob hf hq
  have hD := hD rfl
  have he : eObj b n = 0 := by rw [← hcb]; exact hD.2.2
  obtain ⟨k1, k2, ⟨k3, k4⟩, k5, k6, k7, k8⟩ := hk
  have hT := BK_lt hW.1 h64 hnq
  obtain ⟨T, eT⟩ : ∃ T, T = s.2.2.1.length := ⟨_, rfl⟩
  rw [← eT] at hT k3 k7 k8
  have o147 := G147 hS
  have oq := hD.1.1.1.1.1
  -- the member is marked
  obtain ⟨τ1, hτ1⟩ : ∃ x, x = vN τ 1689 (va_up (eN τ 1689) T (some (10 + 2 * q))) := ⟨_, rfl⟩
  obtain ⟨τ2, hτ2⟩ : ∃ x, x = tI τ1 147 14 (nI (T + 1)) := ⟨_, rfl⟩
  obtain ⟨τ3, hτ3⟩ : ∃ x, x = tI τ2 (10 + 2 * q) 15 (bI true) := ⟨_, rfl⟩
  have f1 : frTk T s.1.2.1.length τ τ1 := by rw [hτ1]; exact frTk_o
  have n1 : NP sk L τ1 own := NP_fx k1 (fun A hA => by rw [hτ1]; exact u1_ne (by omega))
  have f2 : frTk T s.1.2.1.length τ1 τ2 := by rw [hτ2]; exact frTk_I n1 (Or.inl ⟨rfl, by omega⟩)
  have n2 : NP sk L τ2 own := NP_fx n1 (fun A hA => by rw [hτ2]; rfl)
  have f3 : frTk T s.1.2.1.length τ2 τ3 := by rw [hτ3]; exact frTk_I n2 (Or.inr ⟨by omega, by omega⟩)
  have n3 : NP sk L τ3 own := NP_fx n2 (fun A hA => by rw [hτ3]; rfl)
  have f03 := frTk_trans f1 (frTk_trans f2 f3 (Nat.le_refl _)) (Nat.le_refl _)
  have eN3 : ∀ a, a ≠ 1689 → eN τ3 a = eN τ a := fun a ha => by rw [hτ3, hτ2, hτ1]; exact u1_ne ha
  have eN31 : eN τ3 1689 = va_up (eN τ 1689) T (some (10 + 2 * q)) := by rw [hτ3, hτ2, hτ1]; exact (u1_eq : u1 τ.2.2.2.2.2 1689 _ 1689 = _)
  have eI3 : ∀ a j, (a ≠ 147 ∨ j ≠ 14) → (a ≠ 10 + 2 * q ∨ j ≠ 15) → fI τ3 a j = fI τ a j := fun a j h1 h2 => by
    rw [hτ3, tI_ne h2, hτ2, tI_ne h1, hτ1]; rfl
  have eJ3 : ∀ a j, fJ τ3 a j = fJ τ a j := fun a j => by rw [hτ3, hτ2, hτ1]; rfl
  have eFN3 : ∀ a j, fN τ3 a j = fN τ a j := fun a j => by rw [hτ3, hτ2, hτ1]; rfl
  have hR3 := GR_Tk hR f03
  have hD3 := cD_mv hD EX_refl (SF_Tk f03) (by omega) (by omega)
  have tbT : tB fs (s.2.2.1 ++ [q]) T = b := by rw [eT]; exact tB_2 hq
  have hC3 : CLn sk L τ3 (tB fs (s.2.2.1 ++ [q])) s.1.2.1 s.1.2.2.1 s.2.1.2.2 := CLn_tb (CLn_fx k2 k1 EX_refl (fun a j h => eI3 a j (by omega) (by omega)) (fun a j _ => eJ3 a j) (fun a j _ => eFN3 a j) (eN3 149 (by decide)) (eN3 1693 (by decide))) (fun i x hx t' k' e => by
    have hb := hW.2.1 i x hx
    unfold byP at hb
    rw [e] at hb
    exact tB_1 hb.1)
  -- the parts
  obtain ⟨τ4, p1, p2, p3⟩ := k_openParts (F := F) (c := c) (t := T) (u := q) hS (by omega) (by omega) hT hR3 hD3 (hR3.2.1 q h64).2.2.2
  have f4 : frTk T s.1.2.1.length τ3 τ4 := frTk_Op n3 p3 hT
  have n4 : NP sk L τ4 own := NP_fx n3 (fun A _ => p3.2.2.2.2.2 A)
  have hR4 := GR_Tk hR3 f4
  have hD4 := cD_mv hD3 EX_refl (SF_Tk f4) (by omega) (by omega)
  have hC4 := CLn_fx hC3 n3 EX_refl (fun a j h => p3.1 a j (by omega)) (fun a j _ => p3.2.1 a j (by omega)) (fun a j _ => p3.2.2.1 a j) (p3.2.2.2.2.2 149) (p3.2.2.2.2.2 1693)
  -- the names
  have h71 : fI τ4 7 1 = nI (off fs fs.length) := by
    rw [(SF_Tk f4).1 7 1 (by omega) (by decide), (SF_Tk f03).1 7 1 (by omega) (by decide)]
    exact hf.2.2.2.1
  have e8 : eI τ 8 = eI τ 8 := rfl
  have hyo := (eObj_0 he).2.1
  have hB16 : ∀ j, yB b j < 16 := fun j => by have := cb_lt (eI τ 8) (bsO fs q) n (yP b j + 4); rw [hcb] at this; unfold yB; omega
  have hxl := hW.1.2.2.1
  have hol := hW.1.2.2.2.1
  rw [← eT] at hxl hol
  obtain ⟨sk5, L5, τ5, own5, a1, a2, a3, a4, a5, a6, a7⟩ := k_enterNames (F := F) (c := c) (t := T) (k := k) hS (by omega) (by omega) hT hcb.symm hss hss2 hyo hB16 hR4 n4 hC4 hD4.1 h71 (by omega) hm
  have hs149 : ∀ i, i < s.1.2.1.length → ∃ p, eN τ4 149 i = some p := fun i hi => ⟨_, (CLn_at hC4 (List.getElem?_eq_getElem hi)).2.1⟩
  have f5 := frTk_Sy a7 hs149
  have hS5 := GS_ex hS a2
  have hR5 := GR_Tk hR4 f5
  have hD5 := cD_mv hD4 a2 (SF_Tk f5) (by omega) (by omega)
  have hM64 : oM b ≤ 64 := by rw [← hcb]; exact w2_M hD.1.2.2
  obtain ⟨ys, eys⟩ : ∃ ys, ys = itr (ec1 b) 0 64 s.1.2.1 := ⟨_, rfl⟩
  rw [← eys] at a5 a6
  have ynd : (ys.map Prod.fst).Nodup := by
    rw [eys]
    exact ec_inv (P := fun zs => (zs.map Prod.fst).Nodup) (fun w zs h => by rw [entL_fst]; exact ent_nd h) 64 0 _ hW.2.2.2.1
  have yok : okL ys := by rw [eys]; exact ec_inv (P := okL) (fun w zs h => okL_ent h) 64 0 _ hW.1.2.1
  have y3 : AL (fun x => x.2.1 ≤ 3) ys := by rw [eys]; exact ec_inv (P := AL (fun x => x.2.1 ≤ 3)) (fun w zs h => AL_ent h (Nat.zero_le _)) 64 0 _ h3
  have ym : ∀ j, 1 ≤ j → j < oM b → yB b j ≠ 0 → yT b j ∈ ys.map Prod.fst := fun j j1 j2 j3 => by
    rw [eys]
    exact (ec_mem (b := b) (xs := s.1.2.1) 64 0 s.1.2.1).2 j (Nat.zero_le _) (by omega) (decide_eq_true ⟨j1, j2, j3⟩)
  -- groups
  have hrp5 : RPd τ5 T b (bsO fs q) q s.2.1.1 := fun i hi => by
    rw [k7 _ (by omega)]
    have := isPd_0 (p2 i hi)
    rw [hcb] at this
    exact isPd_fr this (fun j => a7.1 _ j (by omega) (by omega) (Or.inl (by omega)))
  have h17 : fI τ5 147 17 = nI s.2.1.2.1 := by
    rw [a7.1 147 17 (by omega) (by omega) (Or.inl (by omega)), p3.1 147 17 (by omega), eI3 147 17 (Or.inr (by decide)) (Or.inl (by omega))]
    exact k4
  have hS24 : oS b ≤ 24 ∧ 1 ≤ oS b := by
    have h1 := hD.1.1.1.2.1.2.2
    have h2 := hD.1.1.1.2.2.1
    rw [hcb] at h1 h2
    exact ⟨h1, h2⟩
  obtain ⟨τ6, b1, b2, b3, b4, b5⟩ := k_dg_2 (F := F) (c := c) (N := ys.length) (g := 11 + 2 * q) hS5 hF (show 7 ≤ 10 + 2 * q ∧ 10 + 2 * q < 138 by omega) (by omega) hT hcb.symm ynd (oS b) 0 F τ5 s.2.1 (by omega) (by omega) (by omega) hR5 hD5 ⟨a4, a5, a6, hrp5, h17⟩
  rw [dg_0 he hS24.2] at b2
  obtain ⟨g6, eg6⟩ : ∃ g6, g6 = itr (dg1 T b) 1 (oS b - 1) s.2.1 := ⟨_, rfl⟩
  rw [← eg6] at b2
  obtain ⟨c1, c2, c3, c4, c5⟩ := b2
  have hR6 := GR_Tk hR5 b3
  have hD6 := cD_mv hD5 EX_refl (SF_Tk b3) (by omega) (by omega)
  -- definitions
  obtain ⟨fin, efin⟩ : ∃ fin, fin = itr (tk1 g6.1 T b) 1 (oM b - 1) (s.1.1, ys, s.1.2.2.1, s.1.2.2.2) := ⟨_, rfl⟩
  have eTK : tkM b q s = (fin, g6, s.2.2.1 ++ [q], s.2.2.2) := by
    unfold tkM
    rw [← eT, ← eg6, tks_first hM64, ← eys, ← efin]
  have hdn : ∃ τ', f_Link_defineNames F c 147 (nI T) (some (10 + 2 * q)) (cH sk5 L5 τ6) = some (bI (decide (fin.1 ≠ 1)), cH sk5 L5 τ') ∧ DNs sk5 L5 own5 (tB fs (s.2.2.1 ++ [q])) T b (bsO fs q) q g6.1 g6.2.2 τ' fin ∧ frTk T ys.length τ6 τ' ∧ (frTq τ6 τ' ∧ fI τ' 147 17 = fI τ6 147 17) ∧ ((fin.1 = 0 ∧ fN τ' 147 13 = fN τ6 147 13) ∨ (fin.1 = 1 ∧ BL sk5 L5 τ')) := by
    unfold f_Link_defineNames
    by_cases c0 : oM b = 0
    · rw [c0, itr_0] at efin
      rw [efin]
      refine ⟨τ6, ?_, ⟨c1, c2, c3, c4⟩, frTk_refl, ⟨frTq_refl, rfl⟩, Or.inl ⟨hs0, rfl⟩⟩
      obtain ⟨f, rfl⟩ : ∃ x, F = x + 1 := ⟨F - 1, by omega⟩
      unfold f_Link_defineNames_2 f_Link_defineNames_135
      rw [bs, C7g11 hD6.1.1.1.1.1, bs, hD6.1.2.1.2.1, hcb, c0, if_pos (show nI 0 ≤ nI 1 by decide), hs0]
      rfl
    · rw [efin]
      exact k_dn_2 hS5 hF (by omega) (by omega) hT hcb.symm tbT hM64 (oM b - 1) 1 F τ6 (s.1.1, ys, s.1.2.2.1, s.1.2.2.2) (by omega) (Nat.le_refl _) (by omega) hs0 yok y3 (by show s.1.2.2.1.length + _ ≤ _; omega) ym hR6 hD6 ⟨c1, c2, c3, c4⟩
  obtain ⟨τ7, d1, d2, d3, ⟨d5, d6⟩, d4⟩ := hdn
  have q37 : frTq τ3 τ7 := frTq_trans (frTq_Op p3) (frTq_trans (frTq_Sy a7) (frTq_trans b4 d5))
  obtain ⟨e1, e2, e3, e4⟩ := d2
  have hyl : s.1.2.1.length ≤ ys.length := by
    rw [eys]
    exact ec_inv (P := fun zs => s.1.2.1.length ≤ zs.length) (fun w zs h => by
      unfold entL
      split
      · exact h
      · rw [List.length_append]; omega) 64 0 _ (Nat.le_refl _)
  have f57 : frTk T ys.length τ5 τ7 := frTk_trans b3 d3 (Nat.le_refl _)
  have f47 := frTk_trans f5 f57 hyl
  have f37 := frTk_trans f4 f47 (Nat.le_refl _)
  have f07 := frTk_trans f03 f37 (Nat.le_refl _)
  have hgp := (eObj_0 he).2.2
  have hnm : nmE (s.1.2.1.map Prod.fst) (fin.2.1.map Prod.fst) := by
    have := nmE_tk (dr := g6.1) (t := T) (b := b) (oM b - 1) 1 s.1
    rw [tks_first hM64, ← eys, ← efin] at this
    exact this
  have hdr : ∀ x, (x < 24 * T ∨ 24 * T + 24 ≤ x) → g6.1 x = s.2.1.1 x := fun x hx => by rw [eg6]; exact dgs_out hgp hS24.2 hx s.2.1
  refine ⟨sk5, L5, τ7, own5, ?_, a2, a3, ?_, by rw [← eT]; exact f07, ?_⟩
  · unfold f_Link_takeObject
    rw [C3g14 o147, bs, k3, C3r6 o147 (GR_r (v := 1689) hR (by decide)), bs, c_l (G1689 hS) (by decide), bs, if_pos (nI_lt hT (by decide)), bs, bs, c_sO (G1689 hS) (by decide) (by decide) hT oq, bs, ← hτ1, C3g14 o147, bs, show fI τ1 147 14 = nI T by rw [hτ1]; exact k3, nI_add, C3p14 o147, bs, ← hτ2, bs, show xpZ _ 7 15 (10 + 2 * q) (nI 1) = _ from C7z15 oq true, bs, ← hτ3, c_o o147, bs, p1, xb_mk, c_o o147, bs, a1, xb_mk, c_o (G147 hS5), bs]
    unfold f_Link_dropGroups
    rw [b1, xb_mk, c_o (G147 hS5), bs, d1, xb_mk, eTK]
    cases decide (fin.1 ≠ 1) with
    | true => exact xz_1 _
    | false => exact xz_0 _
  · rw [eTK]
    have h14 : fI τ7 147 14 = nI (T + 1) := by rw [q37.1, hτ3, tI_ne (Or.inl (by omega)), hτ2, tI_at]
    refine ⟨e1, e2, ⟨?_, ?_⟩, fun t' q' hq' => ?_, fun q' hq' => ⟨?_, ?_⟩, fun x hx => ?_, ?_⟩
    · show fI τ7 147 14 = nI (s.2.2.1 ++ [q]).length
      rw [List.length_append, List.length_singleton, ← eT]
      exact h14
    · show fI τ7 147 17 = nI g6.2.1
      rw [d6]; exact c5
    · have hq' : (s.2.2.1 ++ [q])[t']? = some q' := hq'
      show RPd τ7 t' (tB fs (s.2.2.1 ++ [q]) t') (bsO fs q') q' g6.1 ∧ RSy τ7 t' (tB fs (s.2.2.1 ++ [q]) t') fin.2.1 64 ∧ eN τ7 1689 t' = some (10 + 2 * q')
      by_cases ct : t' < T
      · rw [List.getElem?_append_left (by omega)] at hq'
        obtain ⟨r1, r2, r3⟩ := k5 t' q' hq'
        rw [tB_1 (by omega)]
        refine ⟨fun i hi => ?_, ?_, ?_⟩
        · rw [hdr _ (by omega)]
          exact isPd_fr (r1 i hi) (fun j => f07.1 _ j (by omega) (by omega) (Or.inl (by omega)) (Or.inl (by omega)) (by omega) (Or.inl (by omega)))
        · exact RSy_up r2 (fun i hi => f07.2.2.2.2.2.2.2.2.1 i hi) (fun j hj => f07.2.2.2.2.2.2.1 _ (by omega)) hnm
        · rw [f07.2.2.2.2.2.2.2.1 t' (by omega)]; exact r3
      · have et : t' = T := by
          have := (List.getElem?_eq_some_iff.mp hq').1
          rw [List.length_append, List.length_singleton] at this
          omega
        rw [et, eT, List.getElem?_append_right (Nat.le_refl _), Nat.sub_self] at hq'
        have hq' : q = q' := Option.some.inj hq'
        rw [et, tbT, ← hq']
        refine ⟨e4, e3, ?_⟩
        rw [q37.2.2, eN31, va_up_a]
    · show fI τ7 (10 + 2 * q') 15 = bI (decide (q' ∈ s.2.2.1 ++ [q]))
      rw [q37.2.1 _ _ (by omega) (by omega)]
      by_cases cq : q' = q
      · rw [cq, hτ3, tI_at, decide_eq_true (List.mem_append.mpr (Or.inr (List.mem_singleton.mpr rfl)))]
      · rw [eI3 _ 15 (Or.inl (by omega)) (Or.inl (by omega)), (k6 q' hq').1]
        congr 1
        by_cases c : q' ∈ s.2.2.1
        · rw [decide_eq_true c, decide_eq_true (List.mem_append.mpr (Or.inl c))]
        · rw [decide_eq_false c, decide_eq_false (fun w => (List.mem_append.mp w).elim c (fun e => cq (List.mem_singleton.mp e)))]
    · have hc := (k6 q' hq').2
      have e16 : fI τ7 (10 + 2 * q') 16 = fI τ (10 + 2 * q') 16 := by rw [q37.2.1 _ _ (by omega) (by omega), eI3 _ 16 (Or.inl (by omega)) (Or.inr (by decide))]
      refine ⟨fun w => e16.trans (hc.1 w), fun i w => ?_⟩
      obtain ⟨o', n'', b', j, x1, x2, x3, x4, x5, x6⟩ := hc.2 i w
      exact ⟨o', n'', b', j, x1, x2, x3, x4, e16.trans x5, nmE_ix hnm x6⟩
    · have hx : 24 * (s.2.2.1 ++ [q]).length ≤ x := hx
      rw [List.length_append, List.length_singleton, ← eT] at hx
      show g6.1 x = false
      rw [hdr x (by omega)]
      exact k7 x (by omega)
    · show g6.2.1 ≤ 24 * (s.2.2.1 ++ [q]).length
      have := dg_cnt (t := T) (b := b) (oS b - 1) 1 s.2.1
      rw [← eg6] at this
      rw [List.length_append, List.length_singleton, ← eT]
      omega
  · rw [eTK]
    rcases d4 with d4 | d4
    · refine Or.inl ⟨d4.1, d4.2.trans ?_⟩
      rw [b5, a7.2.2.1 147 13 (by decide), p3.2.2.1, eFN3]
    · exact Or.inr d4
end CTP
end
section
/-! what stays while objects are taken -/
def frLn (N : Nat) (τ τ' : px_TT) : Prop := (∀ a k, a < 1815 → a ≠ 1695 → (a ≠ 148 ∨ k ≠ 2) → (a ≠ 147 ∨ (k ≠ 14 ∧ k ≠ 15 ∧ k ≠ 17)) → (a < 152 ∨ 1688 ≤ a) → (¬ (10 ≤ a ∧ a < 138) ∨ (k ≠ 15 ∧ k ≠ 16)) → fI τ' a k = fI τ a k) ∧ (∀ a k, a < 1815 → a ≠ 1695 → (a < 152 ∨ 1688 ≤ a) → fJ τ' a k = fJ τ a k) ∧ (∀ a k, a < 1815 → (a ≠ 147 ∨ k ≠ 13) → fN τ' a k = fN τ a k) ∧ (∀ a, eI τ' a = eI τ a) ∧ (∀ a, eJ τ' a = eJ τ a) ∧ (∀ a, a ≠ 149 → a ≠ 1692 → a ≠ 1693 → a ≠ 1689 → eN τ' a = eN τ a) ∧ (∀ i, i < N → eN τ' 149 i = eN τ 149 i) ∧ ∀ B i p, (B = 141 ∨ B = 144) → eN τ B i = some p → (∀ k, fI τ' p k = fI τ p k) ∧ (∀ k, fJ τ' p k = fJ τ p k) ∧ ∀ k, fN τ' p k = fN τ p k
theorem frLn_refl {N : Nat} {τ : px_TT} : frLn N τ τ := ⟨fun _ _ _ _ _ _ _ _ => rfl, fun _ _ _ _ _ => rfl, fun _ _ _ _ => rfl, fun _ => rfl, fun _ => rfl, fun _ _ _ _ _ => rfl, fun _ _ => rfl, fun _ _ _ _ _ => ⟨fun _ => rfl, fun _ => rfl, fun _ => rfl⟩⟩
theorem frLn_trans {N N' : Nat} {τ τ1 τ2 : px_TT} (h : frLn N τ τ1) (g : frLn N' τ1 τ2) (hN : N ≤ N') : frLn N τ τ2 := by
  obtain ⟨h1, h2, h3, h4, h5, h6, h9, h10⟩ := h
  obtain ⟨g1, g2, g3, g4, g5, g6, g9, g10⟩ := g
  refine ⟨fun a k a1 a2 a3 a4 a5 a6 => (g1 a k a1 a2 a3 a4 a5 a6).trans (h1 a k a1 a2 a3 a4 a5 a6), fun a k a1 a2 a3 => (g2 a k a1 a2 a3).trans (h2 a k a1 a2 a3), fun a k a1 a2 => (g3 a k a1 a2).trans (h3 a k a1 a2), fun a => (g4 a).trans (h4 a), fun a => (g5 a).trans (h5 a), fun a a1 a2 a3 a4 => (g6 a a1 a2 a3 a4).trans (h6 a a1 a2 a3 a4), fun i a1 => (g9 i (by omega)).trans (h9 i a1), fun B i p hB hp => ?_⟩
  have x1 := h10 B i p hB hp
  have x2 := g10 B i p hB (by rw [h6 B (by omega) (by omega) (by omega) (by omega)]; exact hp)
  exact ⟨fun k => (x2.1 k).trans (x1.1 k), fun k => (x2.2.1 k).trans (x1.2.1 k), fun k => (x2.2.2 k).trans (x1.2.2 k)⟩
section FLN
variable {sk sk' : Nat → Nat × Nat × Nat} {L L' : Nat} {τ τ' : px_TT} {own : Nat → Nat × Nat} {gs : List (List Nat × Int64)} {ws : List (List Nat)} {t N : Nat}
theorem frLn_Tk (f : frTk t N τ τ') (ht : t < 64) : frLn N τ τ' := ⟨fun a k a1 a2 a3 a4 a5 a6 => f.1 a k a1 a2 a3 a4 (by omega) a6, fun a k a1 a2 a3 => f.2.1 a k a1 a2 (by omega), f.2.2.1, f.2.2.2.1, f.2.2.2.2.1, f.2.2.2.2.2.1, f.2.2.2.2.2.2.2.2.1, f.2.2.2.2.2.2.2.2.2⟩
theorem GR_Ln (h : GR τ) (f : frLn N τ τ') : GR τ' := GR_mw h (fun a k ha h2 => f.2.2.1 a k (by omega) h2) (fun a k ha hk => f.1 a k (by omega) (by omega) (Or.inl (by omega)) (Or.inl (by omega)) (by omega) (Or.inr (by omega))) (f.2.2.2.2.2.1 9 (by decide) (by decide) (by decide) (by decide)) (f.2.2.2.2.2.1 151 (by decide) (by decide) (by decide) (by decide))
theorem SF_Ln (f : frLn N τ τ') : SF τ τ' := ⟨fun a k h hk => f.1 a k (by omega) (by omega) (Or.inl (by omega)) (Or.inl (by omega)) (by omega) (Or.inr (by omega)), fun a k h => f.2.2.1 a k (by omega) (Or.inl (by omega)), fun a _ => f.2.2.2.1 a⟩
theorem CN_Ln {N' A : Nat} (h : CN sk L τ N' A ws) (e : EX sk L sk' L') (f : frLn N τ τ') (hN : N' = 140 ∨ N' = 143) (hA : A = 141 ∨ A = 144) : CN sk' L' τ' N' A ws := by
  obtain ⟨s1, s2, s3, s4, s5, s6, s7⟩ := h
  have eA : eN τ' A = eN τ A := f.2.2.2.2.2.1 A (by omega) (by omega) (by omega) (by omega)
  refine ⟨ob_ex s1 e, (f.2.2.1 N' 0 (by omega) (Or.inl (by omega))).trans s2, ar_ex s3 e, s4, s5, (f.1 N' 2 (by omega) (by omega) (Or.inl (by omega)) (Or.inl (by omega)) (by omega) (by omega)).trans s6, fun i w hw => ?_⟩
  obtain ⟨z1, z2, z3, z4⟩ := s7 i w hw
  have hz := f.2.2.2.2.2.2.2 A i _ hA z2
  rw [eA]
  exact ⟨z1, z2, ob_ex z3 e, (hz.2.1 0).trans z4.1, (hz.2.1 1).trans z4.2.1, (hz.2.1 2).trans z4.2.2.1, (hz.1 3).trans z4.2.2.2⟩
theorem CG_Ln (h : CG sk L τ gs) (e : EX sk L sk' L') (f : frLn N τ τ') : CG sk' L' τ' gs := by
  refine ⟨CN_Ln h.1 e f (Or.inl rfl) (Or.inl rfl), fun i x hx => ?_⟩
  have hm : (gs.map Prod.fst)[i]? = some x.1 := by rw [List.getElem?_map, hx]; rfl
  have hp : eN τ 141 i = some ((eN τ 141 i).getD 0) := (h.1.2.2.2.2.2.2 i _ hm).2.1
  have hz := f.2.2.2.2.2.2.2 141 i _ (Or.inl rfl) hp
  rw [f.2.2.2.2.2.1 141 (by decide) (by decide) (by decide) (by decide), hz.2.1 7]
  exact h.2 i x hx
theorem CW_Ln (h : CW sk L τ ws) (e : EX sk L sk' L') (f : frLn N τ τ') : CW sk' L' τ' ws := CN_Ln h e f (Or.inr rfl) (Or.inr rfl)
/-- a member's mark -/
theorem frLn_I {a k : Nat} {v : Int32} (hn : NP sk L τ own) (h : (10 ≤ a ∧ a < 138) ∧ (k = 15 ∨ k = 16)) : frLn N τ (tI τ a k v) := frLn_Tk (t := 0) (frTk_I hn (Or.inr h)) (by decide)
end FLN
/-- room for the names of the objects that are not taken yet -/
def omQ (fs : px_FS) (q : Nat) : Nat := ((obAt fs q).map (fun y => if y.2.2.2 = true then 0 else oM y.2.2.1)).getD 0
def rmT (fs : px_FS) (tq : List Nat) : Nat := smN (omQ fs) 64 - (tq.map (omQ fs)).sum
theorem rmT_tk {fs : px_FS} {tq : List Nat} {q o n : Nat} {b : Nat → Nat} (hnd : tq.Nodup) (h64 : ∀ x, x ∈ tq → x < 64) (hq : q < 64) (hn : q ∉ tq) (ho : obAt fs q = some (o, n, b, false)) : rmT fs tq = rmT fs (tq ++ [q]) + oM b := by
  have e : omQ fs q = oM b := by unfold omQ; rw [ho]; rfl
  have h := sum_nd (g := omQ fs) 64 (tq ++ [q]) (List.nodup_append.mpr ⟨hnd, List.Pairwise.cons (fun _ h => nomatch h) List.Pairwise.nil, fun a ha b' hb' e => by
    rw [List.mem_singleton] at hb'
    rw [e, hb'] at ha
    exact hn ha⟩) (fun x hx => by
    rcases List.mem_append.mp hx with h | h
    · exact h64 x h
    · rw [List.mem_singleton] at h; omega)
  unfold rmT
  rw [List.map_append, List.sum_append] at h ⊢
  have e2 : ([q].map (omQ fs)).sum = oM b := by rw [← e]; exact Nat.add_zero _
  rw [e2] at h ⊢
  omega
end
section
/-! takeMembers of the class -/
section CTM
variable {F : Nat} {c : px_CT} {sk : Nat → Nat × Nat × Nat} {L : Nat} {τ τ' : px_TT} {own : Nat → Nat × Nat} {fs : px_FS} {s : px_TK} {q o n k f : Nat} {b : Nat → Nat}
theorem le3_tk (dr : Nat → Bool) (t : Nat) (b : Nat → Nat) (k : Nat) (s : px_TS) (_ : yOK b k = true) (h : AL (fun x => x.2.1 ≤ 3) s.2.1) : AL (fun x => x.2.1 ≤ 3) (tk1 dr t b k s).2.1 := by
  rw [tk1_G]
  have h3 := sOf_3 (dr := dr) (t := t) (b := b) (k := k)
  have hE : AL (fun x => x.2.1 ≤ 3) (entL (yT b k) s.2.1) := AL_ent h (Nat.zero_le _)
  have h1 : ∀ i, AL (fun x => x.2.1 ≤ 3) (setR (entL (yT b k) s.2.1) i (fun r => (r.1, (r.2.1 || decide (yB b k = 1)), r.2.2))) := fun i => AL_setR (P := fun x => x.2.1 ≤ 3) hE (fun x hx => hE i x hx)
  have h2 : ∀ i, AL (fun x => x.2.1 ≤ 3) (setR (entL (yT b k) s.2.1) i (cmS (sOf dr t b k) t k (yZ b k) (yV b k))) := fun i => AL_setR (P := fun x => x.2.1 ≤ 3) hE (fun x hx => by
    have := hE i x hx
    show (cmS _ _ _ _ _ x.2).1 ≤ 3
    unfold cmS dfR cmR
    repeat (first | exact this | exact h3 | split))
  generalize sOf dr t b k = S at *
  generalize yT b k = Y at *
  generalize hg : cmS S t k (yZ b k) (yV b k) = g at *
  generalize hf : (fun r : px_NR => (r.1, (r.2.1 || decide (yB b k = 1)), r.2.2)) = f0 at *
  generalize yB b k = B at *
  unfold tkG
  by_cases c0 : B = 0
  · rw [if_pos c0]; exact h
  · rw [if_neg c0]
    by_cases c1 : s.1 = 1
    · rw [if_pos c1]; exact hE
    · rw [if_neg c1]
      have hc : AL (fun x => x.2.1 ≤ 3) (comG S Y f0 g (s.2.1, s.2.2.1)).2.1 := by
        unfold comG
        by_cases d1 : S = 0
        · rw [if_pos d1]; exact h1 _
        · rw [if_neg d1]
          split
          · exact hE
          · exact h2 _
      split
      · exact hc
      · exact hc
def TKs (sk : Nat → Nat × Nat × Nat) (L : Nat) (own : Nat → Nat × Nat) (τ : px_TT) (fs : px_FS) (k : Nat) (s : px_TK) : Prop := GS sk L ∧ GR τ ∧ CF sk L τ fs ∧ CK sk L own τ fs s ∧ WK fs s ∧ AL (fun x => x.2.1 ≤ 3) s.1.2.1 ∧ RMk sk L (k + rmT fs s.2.2.1) ∧ ((s.1.1 = 0 ∧ fN τ 147 13 = some 1696) ∨ (s.1.1 = 1 ∧ BL sk L τ))
theorem k_take1 (hF : 65536 < F) (h : TKs sk L own τ fs k s) (hs0 : s.1.1 = 0) (hq : obAt fs q = some (o, n, b, false)) (hnq : q ∉ s.2.2.1) : ∃ sk' L' τ' own', f_Link_takeObject F c 147 (some (10 + 2 * q)) (cH sk L τ) = some (bI (decide ((tkM b q s).1.1 ≠ 1)), cH sk' L' τ') ∧ EX sk L sk' L' ∧ TKs sk' L' own' τ' fs k (tkM b q s) ∧ frLn s.1.2.1.length τ τ' := by
  obtain ⟨h1, h2, h3, h4, h5, h6, h7, h8⟩ := h
  obtain ⟨h64, hkd, hcb, hss, hss2, hD⟩ := CF_ob h3 hq
  have he : eObj b n = 0 := by rw [← hcb]; exact (hD rfl).2.2
  have hbk := h5.1
  rw [rmT_tk hbk.2.2.2.2.2.1 (fun x hx => (hbk.2.2.2.2.2.2 x hx).1) h64 hnq hq, ← Nat.add_assoc] at h7
  obtain ⟨sk1, L1, τ1, own1, a1, a2, a3, a4, a5, a6⟩ := k_takeObject (F := F) (c := c) (k := k + rmT fs (s.2.2.1 ++ [q])) h1 hF h2 h3 h4 h5 h6 hs0 hq hnq h7
  have hT := BK_lt hbk h64 hnq
  have f1 := frLn_Tk a5 hT
  have h8 := h8.resolve_right (fun q => by rw [hs0] at q; exact absurd q.1 (by decide))
  refine ⟨sk1, L1, τ1, own1, a1, a2, ⟨GS_ex h1 a2, GR_Ln h2 f1, CF_mv h3 a2 (SF_Ln f1), a4, WK_tk h5 hq h64 hnq he, tkM_inv (P := fun s => AL (fun x => x.2.1 ≤ 3) s.2.1) le3_tk he h6, a3, ?_⟩, f1⟩
  exact a6.imp (fun q => ⟨q.1, q.2.trans h8.2⟩) id
/-- what CK speaks of has not changed -/
theorem CK_fx (h : CK sk L own τ fs s) (hT : s.2.2.1.length ≤ 64) (hI : ∀ a j, a ≠ 1695 → fI τ' a j = fI τ a j) (hJ : ∀ a j, a ≠ 1695 → fJ τ' a j = fJ τ a j) (hN : ∀ a j, fN τ' a j = fN τ a j) (hE : ∀ a, eN τ' a = eN τ a) : CK sk L own τ' fs s := by
  obtain ⟨k1, k2, ⟨k3, k4⟩, k5, k6, k7, k8⟩ := h
  refine ⟨NP_fx k1 (fun A _ => hE A), CLn_fx k2 k1 EX_refl (fun a j h => hI a j (by omega)) (fun a j _ => hJ a j (by omega)) (fun a j _ => hN a j) (hE 149) (hE 1693), ⟨(hI 147 14 (by decide)).trans k3, (hI 147 17 (by decide)).trans k4⟩, fun t q hq => ?_, fun q hq => CC2_fx (k6 q hq) (hI _ 15 (by omega)) (hI _ 16 (by omega)), k7, k8⟩
  obtain ⟨r1, r2, r3⟩ := k5 t q hq
  have ht := (List.getElem?_eq_some_iff.mp hq).1
  exact ⟨fun i hi => isPd_fr (r1 i hi) (fun j => hI _ j (by omega)), RSy_fx r2 (hE 149) (fun j _ => by rw [hE]), by rw [hE]; exact r3⟩
theorem TKs_N (h : TKs sk L own τ fs k s) (hs0 : s.1.1 = 0) (f1 : frN 1695 τ τ') : TKs sk L own τ' fs k s ∧ frLn s.1.2.1.length τ τ' := by
  obtain ⟨h1, h2, h3, h4, h5, h6, h7, h8⟩ := h
  have fl : frLn s.1.2.1.length τ τ' := by
    refine ⟨fun a j _ h _ _ _ _ => f1.1 a j (Or.inl h), fun a j _ h _ => f1.2.1 a j (Or.inl h), fun a j _ _ => f1.2.2.1 a j, f1.2.2.2.1, f1.2.2.2.2.1, fun a _ _ _ _ => f1.2.2.2.2.2 a, fun i _ => by rw [f1.2.2.2.2.2], fun B i p hB hp => ?_⟩
    have := (h4.1 B i p (by omega) hp).1
    exact ⟨fun j => f1.1 p j (Or.inl (by omega)), fun j => f1.2.1 p j (Or.inl (by omega)), fun j => f1.2.2.1 p j⟩
  refine ⟨⟨h1, GR_Ln h2 fl, CF_mv h3 EX_refl (SF_Ln fl), CK_fx h4 (BK_T h5.1) (fun a j h => f1.1 a j (Or.inl h)) (fun a j h => f1.2.1 a j (Or.inl h)) f1.2.2.1 f1.2.2.2.2.2, h5, h6, h7, ?_⟩, fl⟩
  rw [f1.2.2.1]
  exact h8.imp id (fun q => absurd (hs0.symm.trans q.1) (by decide))
/-- the cause of a member's taking -/
theorem CK_c {i j : Nat} (h : CK sk L own τ fs s) (hT : s.2.2.1.length ≤ 64) (hq : q < 64) (hb : obAt fs q = some (o, n, b, false)) (h1 : 1 ≤ j) (hj : j < oM b) (hB : yB b j ≠ 0) (hi : idx (yT b j) 0 (s.1.2.1.map Prod.fst) = some i) : CK sk L own (tI τ (10 + 2 * q) 16 (nI j)) fs (s.1, s.2.1, s.2.2.1, fun x => if x = q then some i else s.2.2.2 x) := by
  obtain ⟨k1, k2, ⟨k3, k4⟩, k5, k6, k7, k8⟩ := h
  have hI : ∀ a m, (¬ (10 ≤ a ∧ a < 138) ∨ m ≠ 16) → fI (tI τ (10 + 2 * q) 16 (nI j)) a m = fI τ a m := fun a m h => tI_ne (by omega)
  refine ⟨NP_fx k1 (fun A _ => rfl), CLn_fx k2 k1 EX_refl (fun a m h => hI a m (by omega)) (fun a m _ => rfl) (fun a m _ => rfl) rfl rfl, ⟨(hI 147 14 (Or.inl (by decide))).trans k3, (hI 147 17 (Or.inl (by decide))).trans k4⟩, fun t q' hq' => ?_, fun q' hq' => ⟨(hI _ 15 (Or.inr (by decide))).trans (k6 q' hq').1, ?_⟩, k7, k8⟩
  · obtain ⟨r1, r2, r3⟩ := k5 t q' hq'
    have ht := (List.getElem?_eq_some_iff.mp hq').1
    have ht : t < s.2.2.1.length := ht
    exact ⟨fun i hi => isPd_fr (r1 i hi) (fun m => hI _ m (Or.inl (by omega))), RSy_fx r2 rfl (fun m _ => rfl), r3⟩
  · by_cases e : q' = q
    · subst e
      refine ⟨fun w => ?_, fun i' w => ?_⟩
      · have w : (if q' = q' then some i else s.2.2.2 q') = none := w
        rw [if_pos rfl] at w
        cases w
      · have w : (if q' = q' then some i else s.2.2.2 q') = some i' := w
        rw [if_pos rfl] at w
        have w := Option.some.inj w
        subst w
        exact ⟨o, n, b, j, hb, h1, hj, hB, tI_at, hi⟩
    · have e16 : fI (tI τ (10 + 2 * q) 16 (nI j)) (10 + 2 * q') 16 = fI τ (10 + 2 * q') 16 := tI_ne (Or.inl (by omega))
      have hc := (k6 q' hq').2
      have ei : (if q' = q then some i else s.2.2.2 q') = s.2.2.2 q' := if_neg e
      refine ⟨fun w => ?_, fun i' w => ?_⟩
      · have w : (if q' = q then some i else s.2.2.2 q') = none := w
        rw [ei] at w
        exact e16.trans (hc.1 w)
      · have w : (if q' = q then some i else s.2.2.2 q') = some i' := w
        rw [ei] at w
        obtain ⟨o', n'', b', j', x1, x2, x3, x4, x5, x6⟩ := hc.2 i' w
        exact ⟨o', n'', b', j', x1, x2, x3, x4, e16.trans x5, x6⟩
theorem TKs_c {i j : Nat} (h : TKs sk L own τ fs k s) (hs0 : s.1.1 = 0) (hq : q < 64) (hb : obAt fs q = some (o, n, b, false)) (h1 : 1 ≤ j) (hj : j < oM b) (hB : yB b j ≠ 0) (hi : idx (yT b j) 0 (s.1.2.1.map Prod.fst) = some i) : TKs sk L own (tI τ (10 + 2 * q) 16 (nI j)) fs k (s.1, s.2.1, s.2.2.1, fun x => if x = q then some i else s.2.2.2 x) ∧ frLn s.1.2.1.length τ (tI τ (10 + 2 * q) 16 (nI j)) := by
  obtain ⟨h1', h2, h3, h4, h5, h6, h7, h8⟩ := h
  have fl : frLn s.1.2.1.length τ (tI τ (10 + 2 * q) 16 (nI j)) := frLn_I h4.1 ⟨by omega, by omega⟩
  refine ⟨⟨h1', GR_Ln h2 fl, CF_mv h3 EX_refl (SF_Ln fl), CK_c h4 (BK_T h5.1) hq hb h1 hj hB hi, h5, h6, h7, ?_⟩, fl⟩
  exact h8.imp id (fun q => absurd (hs0.symm.trans q.1) (by decide))
theorem fwJ_le (g : Nat → Option Nat) : ∀ (c k : Nat), fwJ g k c ≤ k + c := by
  intro c
  induction c with
  | zero => intro k; unfold fwJ; omega
  | succ c ih =>
    intro k
    rw [fwJ_s]
    split
    · omega
    · have := ih (k + 1)
      omega
theorem fwJ_at (g : Nat → Option Nat) : ∀ (c k i : Nat), hpf g k c = some i → g (fwJ g k c) = some i ∧ k ≤ fwJ g k c ∧ fwJ g k c < k + c := by
  intro c
  induction c with
  | zero => intro k i h; exact nomatch h
  | succ c ih =>
    intro k i h
    unfold hpf at h
    rw [fwJ_s]
    cases e : g k with
    | none =>
      rw [e] at h
      have h : hpf g (k + 1) c = some i := by cases c <;> exact h
      obtain ⟨a1, a2, a3⟩ := ih (k + 1) i h
      rw [if_neg (show ¬ (none : Option Nat).isSome = true by decide)]
      exact ⟨a1, by omega, by omega⟩
    | some j =>
      rw [e] at h
      have h : some j = some i := h
      rw [if_pos (show (some j).isSome = true from rfl)]
      exact ⟨e.trans h, Nat.le_refl _, by omega⟩
theorem hp1_at {xs : px_NL} {k i : Nat} (h : hp1 b xs k = some i) : yB b k ≠ 0 ∧ idx (yT b k) 0 (xs.map Prod.fst) = some i := by
  unfold hp1 at h
  by_cases c : yB b k = 0 ∨ yW b k = 0
  · rw [if_pos c] at h; cases h
  · rw [if_neg c] at h
    refine ⟨fun w => c (Or.inl w), ?_⟩
    generalize idx (yT b k) 0 (xs.map Prod.fst) = z at h ⊢
    cases z with
    | none => cases h
    | some x =>
      simp only at h
      cases e : xs[x]? with
      | none => rw [e] at h; cases h
      | some y =>
        rw [e] at h
        simp only at h
        split at h
        · exact h
        · cases h
theorem tks_len {dr : Nat → Bool} {t : Nat} : ∀ (d k : Nat) (s : px_TS), s.2.1.length ≤ (itr (tk1 dr t b) k d s).2.1.length := by
  intro d
  induction d with
  | zero => intro k s; exact Nat.le_refl _
  | succ d ih =>
    intro k s
    rw [itr_s]
    refine Nat.le_trans ?_ (ih (k + 1) _)
    have h := congrArg List.length (tk1_fst (dr := dr) (t := t) (b := b) (k := k) (s := s))
    unfold txs at h
    rw [List.length_map] at h
    rw [h]
    split
    · rw [List.length_map]; exact Nat.le_refl _
    · unfold ent
      split
      · rw [List.length_map]; exact Nat.le_refl _
      · rw [List.length_append, List.length_map]; omega
theorem tkM_len {s : px_TK} : s.1.2.1.length ≤ (tkM b q s).1.2.1.length := tks_len _ _ _
theorem tf1_stop {p : px_TK × Bool} (h : p.1.1.1 = 1) : tf1 fs f k p = p := by unfold tf1; rw [if_pos h]
theorem k_tm_19 {k4 : Nat → Int32 → Int32 → Int32 → px_H → Option (Int32 × px_H)} {rd kk : Nat} (hF : 65536 < F) (hf : f < 8) (hAr : ∀ x, fs[f]? = some x → isAr x.2 x.1 = true) : ∀ (d k g : Nat) (sk : Nat → Nat × Nat × Nat) (L : Nat) (τ : px_TT) (own : Nat → Nat × Nat) (p : px_TK × Bool), k + d = 8 → d < g → p.1.1.1 = 0 → TKs sk L own τ fs kk p.1 → ∃ sk' L' τ' own', f_Link_takeMembers_19 F c k4 g 147 (nI f) (bI p.2) (nI rd) (nI k) (cH sk L τ) = (if (itr (tf1 fs f) k d p).1.1.1 = 1 then some (nI 0, cH sk' L' τ') else f_Link_takeMembers_100 F c k4 147 (nI f) (bI (itr (tf1 fs f) k d p).2) (nI rd) (cH sk' L' τ')) ∧ EX sk L sk' L' ∧ TKs sk' L' own' τ' fs kk (itr (tf1 fs f) k d p).1 ∧ frLn p.1.1.2.1.length τ τ' ∧ p.1.1.2.1.length ≤ (itr (tf1 fs f) k d p).1.1.2.1.length := by
  intro d
  induction d with
  | zero =>
    intro k g sk L τ own p hk hg hp0 h
    obtain ⟨g, rfl⟩ : ∃ x, g = x + 1 := ⟨g - 1, by omega⟩
    refine ⟨sk, L, τ, own, ?_, EX_refl, h, frLn_refl, Nat.le_refl _⟩
    unfold f_Link_takeMembers_19
    rw [if_pos (nI_le (by omega) (by omega)), itr_0, if_neg (by rw [hp0]; decide)]
  | succ d ih =>
    intro k g sk L τ own p hk hg hp0 h
    obtain ⟨g, rfl⟩ : ∃ x, g = x + 1 := ⟨g - 1, by omega⟩
    obtain ⟨h1, h2, h3, h4, h5, h6, h7, h8⟩ := id h
    rw [itr_s]
    have o147 := G147 h1
    obtain ⟨Q, hQ⟩ : ∃ Q, Q = 8 * f + k := ⟨_, rfl⟩
    have hQ64 : Q < 64 := by omega
    have oq := G_of h1 hQ64
    have e9 := (h2.2.1 Q hQ64).2.2.1
    have next : ∀ (p1 : px_TK × Bool) sk1 L1 τ1 own1, p1 = tf1 fs f k p → p1.1.1.1 = 0 → EX sk L sk1 L1 → TKs sk1 L1 own1 τ1 fs kk p1.1 → frLn p.1.1.2.1.length τ τ1 → p.1.1.2.1.length ≤ p1.1.1.2.1.length → ∃ sk' L' τ' own', f_Link_takeMembers_94 F c k4 (f_Link_takeMembers_19 F c k4 g) 147 (nI f) (bI p1.2) (nI rd) (nI k) (cH sk1 L1 τ1) = (if (itr (tf1 fs f) (k + 1) d (tf1 fs f k p)).1.1.1 = 1 then some (nI 0, cH sk' L' τ') else f_Link_takeMembers_100 F c k4 147 (nI f) (bI (itr (tf1 fs f) (k + 1) d (tf1 fs f k p)).2) (nI rd) (cH sk' L' τ')) ∧ EX sk L sk' L' ∧ TKs sk' L' own' τ' fs kk (itr (tf1 fs f) (k + 1) d (tf1 fs f k p)).1 ∧ frLn p.1.1.2.1.length τ τ' ∧ p.1.1.2.1.length ≤ (itr (tf1 fs f) (k + 1) d (tf1 fs f k p)).1.1.2.1.length := fun p1 sk1 L1 τ1 own1 e1 e2 e3 e4 e5 e6 => by
      rw [← e1]
      obtain ⟨sk', L', τ', own', j1, j2, j3, j4, j5⟩ := ih (k + 1) g sk1 L1 τ1 own1 p1 (by omega) (by omega) e2 e4
      refine ⟨sk', L', τ', own', ?_, EX_trans e3 j2, j3, frLn_trans e5 j4 e6, Nat.le_trans e6 j5⟩
      unfold f_Link_takeMembers_94
      rw [nI_add]
      exact j1
    have skip : tf1 fs f k p = p → ∃ sk' L' τ' own', f_Link_takeMembers_66 F c k4 (f_Link_takeMembers_19 F c k4 g) 147 (nI f) (bI p.2) (nI rd) (nI k) (some (10 + 2 * Q)) (cH sk L τ) = (if (itr (tf1 fs f) (k + 1) d (tf1 fs f k p)).1.1.1 = 1 then some (nI 0, cH sk' L' τ') else f_Link_takeMembers_100 F c k4 147 (nI f) (bI (itr (tf1 fs f) (k + 1) d (tf1 fs f k p)).2) (nI rd) (cH sk' L' τ')) ∧ EX sk L sk' L' ∧ TKs sk' L' own' τ' fs kk (itr (tf1 fs f) (k + 1) d (tf1 fs f k p)).1 ∧ frLn p.1.1.2.1.length τ τ' ∧ p.1.1.2.1.length ≤ (itr (tf1 fs f) (k + 1) d (tf1 fs f k p)).1.1.2.1.length := fun e => by
      unfold f_Link_takeMembers_66 f_Link_takeMembers_67
      rw [if_pos (show nI 0 ≤ 0 by decide)]
      exact next p sk L τ own e.symm hp0 EX_refl h frLn_refl (Nat.le_refl _)
    unfold f_Link_takeMembers_19
    rw [if_neg (nI_ge (by omega) (by omega)), C3r0 o147 (GR_r (v := 9) h2 (by decide)), bs, pk_mul, nI_add, show f * 8 + k = Q by omega, c_aN (G9 h1) (by decide) (by decide) hQ64, bs, e9, bs, C7g4 oq, bs]
    cases ho : obAt fs Q with
    | none =>
      rw [CF_no h3 ho hQ64, if_neg (show ¬ nI 0 = nI 2 by decide)]
      exact skip (by unfold tf1; rw [if_neg (by omega), ← hQ, ho])
    | some y =>
      obtain ⟨o, n, b, z⟩ := y
      obtain ⟨_, ⟨x, hx, hkd⟩, hcb, hss, hss2, hD⟩ := CF_ob h3 ho
      rw [show Q / 8 = f by omega] at hx
      rw [hkd, hAr x hx]
      have et : tf1 fs f k p = if z = true ∨ Q ∈ p.1.2.2.1 then p else match hpf (hp1 b p.1.1.2.1) 1 (oM b - 1) with
        | none => p
        | some i => (tkM b Q (p.1.1, p.1.2.1, p.1.2.2.1, fun x => if x = Q then some i else p.1.2.2.2 x), true) := by
        unfold tf1
        rw [if_neg (by omega), ← hQ, ho]
        rfl
      cases z with
      | true =>
        rw [show mkd true true = 3 from rfl, if_neg (show ¬ nI 3 = nI 2 by decide)]
        exact skip (by rw [et, if_pos (Or.inl rfl)])
      | false =>
        rw [show mkd true false = 2 from rfl, if_pos rfl, C7g15 oq, bs, (h4.2.2.2.2.1 Q hQ64).1]
        by_cases ct : Q ∈ p.1.2.2.1
        · rw [decide_eq_true ct, if_neg (show ¬ bI true = 0 by decide)]
          exact skip (by rw [et, if_pos (Or.inr ct)])
        · rw [decide_eq_false ct, if_pos (show bI false = 0 from rfl)]
          rw [if_neg (fun q => q.elim (fun q => nomatch q) ct)] at et
          have hD := hD rfl
          have he : eObj b n = 0 := by rw [← hcb]; exact hD.2.2
          have hyo := (eObj_0 he).2.1
          have hB16 : ∀ j, yB (cb (eI τ 8) (bsO fs Q) n) j < 16 ∧ yW (cb (eI τ 8) (bsO fs Q) n) j < 65536 := fun j => ⟨by have := cb_lt (eI τ 8) (bsO fs Q) n (yP (cb (eI τ 8) (bsO fs Q) n) j + 4); unfold yB; omega, le_lt (fun x => cb_lt _ _ _ x) _ _⟩
          obtain ⟨τ1, a1, a2⟩ := k_firstWanted (F := F) (c := c) (q := 10 + 2 * Q) h1 (by omega) (by omega) hss hss2 h5.1.2.1 (by rw [hcb]; exact hyo) hB16 h2 h4.1 h4.2.1 hD.1 h3.2.2.2.1
          rw [hcb] at a1
          obtain ⟨t1, f1⟩ := TKs_N h hp0 a2
          rw [c_o o147, bs, a1, xb_mk]
          have hpos := fwJ_pos (hp1 b p.1.1.2.1) (oM b - 1) 1 (Nat.le_refl _)
          have hlt : fwJ (hp1 b p.1.1.2.1) 1 (oM b - 1) < 2 ^ 31 := by
            have h1 := fwJ_le (hp1 b p.1.1.2.1) (oM b - 1) 1
            have h2 : oM b ≤ 64 := by rw [← hcb]; exact w2_M hD.1.2.2
            omega
          obtain ⟨J, hJ⟩ : ∃ J, J = fwJ (hp1 b p.1.1.2.1) 1 (oM b - 1) := ⟨_, rfl⟩
          rw [← hJ] at hpos hlt ⊢
          unfold f_Link_takeMembers_67
          cases ei : hpf (hp1 b p.1.1.2.1) 1 (oM b - 1) with
          | none =>
            rw [ei] at hpos et
            have hJ0 : J = 0 := by
              rcases Nat.eq_zero_or_pos J with e | e
              · exact e
              · exact absurd (hpos.mp e) (by decide)
            rw [hJ0, if_pos (show nI 0 ≤ 0 by decide)]
            exact next p sk L τ1 own et.symm hp0 EX_refl t1 f1 (Nat.le_refl _)
          | some i =>
            rw [ei] at hpos et
            have hJ0 : 0 < J := hpos.mpr rfl
            obtain ⟨w1', w2', w3'⟩ := fwJ_at (hp1 b p.1.1.2.1) (oM b - 1) 1 i ei
            rw [← hJ] at w1' w2' w3'
            obtain ⟨w4', w5'⟩ := hp1_at w1'
            obtain ⟨t2, f2⟩ := TKs_c (i := i) (j := J) t1 hp0 hQ64 ho w2' (by omega) w4' w5'
            obtain ⟨τ2, hτ2⟩ : ∃ x, x = tI τ1 (10 + 2 * Q) 16 (nI J) := ⟨_, rfl⟩
            rw [← hτ2] at t2 f2
            have t3 : TKs sk L own τ2 fs kk (p.1.1, p.1.2.1, p.1.2.2.1, fun x => if x = Q then some i else p.1.2.2.2 x) := t2
            obtain ⟨sk3, L3, τ3, own3, b1, b2, b3, b4⟩ := k_take1 (F := F) (c := c) hF t3 hp0 ho ct
            rw [if_neg (show ¬ nI J ≤ 0 from nI_ge (a := 0) hJ0 hlt), bs, C7p16 oq, bs, ← hτ2, c_o (G147 h1), bs, b1, xb_mk]
            have hlen0 := tkM_len (b := b) (q := Q) (s := (p.1.1, p.1.2.1, p.1.2.2.1, fun x => if x = Q then some i else p.1.2.2.2 x))
            have et : tf1 fs f k p = (tkM b Q (p.1.1, p.1.2.1, p.1.2.2.1, fun x => if x = Q then some i else p.1.2.2.2 x), true) := et
            generalize tkM b Q (p.1.1, p.1.2.1, p.1.2.2.1, fun x => if x = Q then some i else p.1.2.2.2 x) = R at *
            have f3 : frLn p.1.1.2.1.length τ τ3 := frLn_trans f1 (frLn_trans f2 b4 (Nat.le_refl _)) (Nat.le_refl _)
            have hlen : p.1.1.2.1.length ≤ R.1.2.1.length := hlen0
            by_cases cR : R.1.1 = 1
            · rw [decide_eq_false (fun q => q cR), if_pos (show bI false = 0 from rfl)]
              have e2 : itr (tf1 fs f) (k + 1) d (tf1 fs f k p) = (R, true) := by
                rw [et]
                exact itr_id (fun j => tf1_stop cR) d (k + 1)
              rw [e2]
              refine ⟨sk3, L3, τ3, own3, ?_, b2, b3, f3, hlen⟩
              rw [if_pos cR]
              rfl
            · rw [decide_eq_true cR, if_neg (show ¬ bI true = 0 by decide)]
              have hR0 : R.1.1 = 0 := by
                rcases b3.2.2.2.2.2.2.2 with q | q
                · exact q.1
                · exact absurd q.1 cR
              exact next (R, true) sk3 L3 τ3 own3 et.symm hR0 b2 b3 f3 hlen
end CTM
end
section
/-! takeMembers, and the taking in resolve, of the class -/
section CRS
variable {F : Nat} {c : px_CT} {fs : px_FS} {f kk : Nat}
theorem k_tm_4 (hF : 65536 < F) (hf : f < 8) (hAr : ∀ x, fs[f]? = some x → isAr x.2 x.1 = true) : ∀ (d rd g : Nat) (sk : Nat → Nat × Nat × Nat) (L : Nat) (τ : px_TT) (own : Nat → Nat × Nat) (s : px_TK), rd + d = 9 → d < g → s.1.1 = 0 → TKs sk L own τ fs kk s → ∃ sk' L' τ' own', f_Link_takeMembers_4 F c g 147 (nI f) (nI 1) (nI rd) (cH sk L τ) = some (bI (decide ((whl tfS (rdF fs f) d s).1.1 ≠ 1)), cH sk' L' τ') ∧ EX sk L sk' L' ∧ TKs sk' L' own' τ' fs kk (whl tfS (rdF fs f) d s) ∧ frLn s.1.2.1.length τ τ' ∧ s.1.2.1.length ≤ (whl tfS (rdF fs f) d s).1.2.1.length := by
  intro d
  induction d with
  | zero =>
    intro rd g sk L τ own s hr hg hs0 h
    obtain ⟨g, rfl⟩ : ∃ x, g = x + 1 := ⟨g - 1, by omega⟩
    refine ⟨sk, L, τ, own, ?_, EX_refl, h, frLn_refl, Nat.le_refl _⟩
    unfold f_Link_takeMembers_4 f_Link_takeMembers_106
    rw [if_neg (show ¬ nI 1 = 0 by decide), if_pos (nI_lt (by omega) (by omega))]
    show _ = some (bI (decide (s.1.1 ≠ 1)), _)
    rw [hs0]
    rfl
  | succ d ih =>
    intro rd g sk L τ own s hr hg hs0 h
    obtain ⟨g, rfl⟩ : ∃ x, g = x + 1 := ⟨g - 1, by omega⟩
    have hst : tfS s = false := decide_eq_false (by rw [hs0]; decide)
    rw [whl_s, if_neg (show ¬ tfS s = true by rw [hst]; decide)]
    unfold f_Link_takeMembers_4
    rw [if_neg (show ¬ nI 1 = 0 by decide), if_neg (nI_nlt (by omega) (by omega))]
    obtain ⟨sk1, L1, τ1, own1, a1, a2, a3, a4, a5⟩ := k_tm_19 (F := F) (c := c) (k4 := f_Link_takeMembers_4 F c g) (rd := rd) (kk := kk) hF hf hAr 8 0 F sk L τ own (s, false) rfl (by omega) hs0 h
    have a1 : f_Link_takeMembers_19 F c (f_Link_takeMembers_4 F c g) F 147 (nI f) (nI 0) (nI rd) (nI 0) (cH sk L τ) = _ := a1
    have eR : itr (tf1 fs f) 0 8 (s, false) = rdF fs f s := rfl
    rw [eR] at a1 a3 a5
    rw [a1]
    generalize rdF fs f s = R at *
    by_cases c1 : R.1.1.1 = 1
    · rw [if_pos c1]
      have e2 : (if R.2 = true then whl tfS (rdF fs f) d R.1 else R.1) = R.1 := by
        split
        · cases d with
          | zero => rfl
          | succ d => rw [whl_s, if_pos (show tfS R.1 = true from decide_eq_true c1)]
        · rfl
      rw [e2]
      refine ⟨sk1, L1, τ1, own1, ?_, a2, a3, a4, a5⟩
      rw [decide_eq_false (fun q => q c1)]
      rfl
    · rw [if_neg c1]
      have hR0 : R.1.1.1 = 0 := by
        rcases a3.2.2.2.2.2.2.2 with q | q
        · exact q.1
        · exact absurd q.1 c1
      unfold f_Link_takeMembers_100
      rw [nI_add]
      by_cases c2 : R.2 = true
      · rw [if_pos c2, c2]
        obtain ⟨sk2, L2, τ2, own2, b1, b2, b3, b4, b5⟩ := ih (rd + 1) g sk1 L1 τ1 own1 R.1 (by omega) (by omega) hR0 a3
        exact ⟨sk2, L2, τ2, own2, b1, EX_trans a2 b2, b3, frLn_trans a4 b4 a5, Nat.le_trans a5 b5⟩
      · rw [if_neg c2, Bool.eq_false_iff.mpr c2]
        refine ⟨sk1, L1, τ1, own1, ?_, a2, a3, a4, a5⟩
        obtain ⟨g, rfl⟩ : ∃ x, g = x + 1 := ⟨g - 1, by omega⟩
        unfold f_Link_takeMembers_4 f_Link_takeMembers_106
        rw [if_pos (show bI false = 0 from rfl), hR0]
        rfl
theorem tfL_none {s : px_TK} (h : fs[f]? = none) : tfL fs f 9 s = s := by
  have ho : ∀ k, k < 8 → obAt fs (8 * f + k) = none := fun k hk => by
    unfold obAt
    rw [show (8 * f + k) / 8 = f by omega, h]
  have e : rdF fs f s = (s, false) := by
    unfold rdF
    refine itr_idr 8 0 (fun j _ hj => ?_)
    unfold tf1
    split
    · rfl
    · rw [ho j (by omega)]
  unfold tfL
  rw [whl_s, e]
  split
  · rfl
  · rfl
/-- the taking of all files -/
theorem k_rs_6 {a1 : Int32} (hF : 65536 < F) : ∀ (d f g : Nat) (sk : Nat → Nat × Nat × Nat) (L : Nat) (τ : px_TT) (own : Nat → Nat × Nat) (s : px_TK), f + d = 8 → d < g → s.1.1 = 0 → qLs f s → TKs sk L own τ fs kk s → ∃ sk' L' τ' own', f_Link_resolve_6 F c g 147 a1 (nI f) (cH sk L τ) = (if (itr (ta1 fs) f d s).1.1 = 1 then some (nI 1, cH sk' L' τ') else f_Link_resolve_58 F c 147 a1 (cH sk' L' τ')) ∧ EX sk L sk' L' ∧ TKs sk' L' own' τ' fs kk (itr (ta1 fs) f d s) ∧ frLn s.1.2.1.length τ τ' := by
  intro d
  induction d with
  | zero =>
    intro f g sk L τ own s hf hg hs0 hq h
    obtain ⟨g, rfl⟩ : ∃ x, g = x + 1 := ⟨g - 1, by omega⟩
    refine ⟨sk, L, τ, own, ?_, EX_refl, h, frLn_refl⟩
    unfold f_Link_resolve_6
    rw [if_pos (nI_le (by omega) (by omega)), itr_0, if_neg (by rw [hs0]; decide)]
  | succ d ih =>
    intro f g sk L τ own s hf hg hs0 hq h
    obtain ⟨g, rfl⟩ : ∃ x, g = x + 1 := ⟨g - 1, by omega⟩
    obtain ⟨h1, h2, h3, h4, h5, h6, h7, h8⟩ := id h
    have hFSo : FSo fs := fun q o n b ho => by
      obtain ⟨x1, x2, x3, x4, x5, x6⟩ := CF_ob h3 ho
      exact ⟨x1, by rw [← x3]; exact (x6 rfl).2.2⟩
    have hta := WK_ta1 hFSo h5 hq
    rw [itr_s]
    have o147 := G147 h1
    have hQ64 : 8 * f < 64 := by omega
    have oq := G_of h1 hQ64
    have e9 := (h2.2.1 (8 * f) hQ64).2.2.1
    have go : ∀ (R : px_TK) sk1 L1 τ1 own1, R = ta1 fs f s → EX sk L sk1 L1 → TKs sk1 L1 own1 τ1 fs kk R → frLn s.1.2.1.length τ τ1 → s.1.2.1.length ≤ R.1.2.1.length → ∃ sk' L' τ' own', f_Link_resolve_43 F c (f_Link_resolve_6 F c g) 147 a1 (nI f) (bI (decide (R.1.1 ≠ 1))) (cH sk1 L1 τ1) = (if (itr (ta1 fs) (f + 1) d (ta1 fs f s)).1.1 = 1 then some (nI 1, cH sk' L' τ') else f_Link_resolve_58 F c 147 a1 (cH sk' L' τ')) ∧ EX sk L sk' L' ∧ TKs sk' L' own' τ' fs kk (itr (ta1 fs) (f + 1) d (ta1 fs f s)) ∧ frLn s.1.2.1.length τ τ' := fun R sk1 L1 τ1 own1 e1 e2 e3 e4 e5 => by
      rw [← e1] at hta ⊢
      unfold f_Link_resolve_43 f_Link_resolve_50
      by_cases cR : R.1.1 = 1
      · rw [decide_eq_false (fun q => q cR), if_pos (show bI false = 0 from rfl)]
        have e6 : itr (ta1 fs) (f + 1) d R = R := itr_id (fun j => by unfold ta1; rw [if_pos cR]) d (f + 1)
        rw [e6]
        exact ⟨sk1, L1, τ1, own1, (if_pos cR).symm, e2, e3, e4⟩
      · rw [decide_eq_true cR, if_neg (show ¬ bI true = 0 by decide), nI_add]
        have hR0 : R.1.1 = 0 := by
          rcases e3.2.2.2.2.2.2.2 with q | q
          · exact q.1
          · exact absurd q.1 cR
        obtain ⟨sk2, L2, τ2, own2, b1, b2, b3, b4⟩ := ih (f + 1) g sk1 L1 τ1 own1 R (by omega) (by omega) hR0 hta.2 e3
        exact ⟨sk2, L2, τ2, own2, b1, EX_trans e2 b2, b3, frLn_trans e4 b4 e5⟩
    have mem : ∀ (hAr : ∀ x, fs[f]? = some x → isAr x.2 x.1 = true), ta1 fs f s = tfL fs f 9 s → ∃ sk' L' τ' own', (xb (f_Link_takeMembers F c 147 (nI f) (cH sk L τ)) fun t5 ph6 => f_Link_resolve_43 F c (f_Link_resolve_6 F c g) 147 a1 (nI f) t5 ph6) = (if (itr (ta1 fs) (f + 1) d (ta1 fs f s)).1.1 = 1 then some (nI 1, cH sk' L' τ') else f_Link_resolve_58 F c 147 a1 (cH sk' L' τ')) ∧ EX sk L sk' L' ∧ TKs sk' L' own' τ' fs kk (itr (ta1 fs) (f + 1) d (ta1 fs f s)) ∧ frLn s.1.2.1.length τ τ' := fun hAr e => by
      obtain ⟨sk1, L1, τ1, own1, b1, b2, b3, b4, b5⟩ := k_tm_4 (F := F) (c := c) (kk := kk) hF (by omega) hAr 9 0 F sk L τ own s rfl (by omega) hs0 h
      have b1 : f_Link_takeMembers F c 147 (nI f) (cH sk L τ) = _ := b1
      rw [b1, xb_mk]
      exact go (tfL fs f 9 s) sk1 L1 τ1 own1 e.symm b2 b3 b4 b5
    unfold f_Link_resolve_6
    rw [if_neg (nI_ge (by omega) (by omega)), C3r0 o147 (GR_r (v := 9) h2 (by decide)), bs, pk_mul, show f * 8 = 8 * f by omega, c_aN (G9 h1) (by decide) (by decide) hQ64, bs, e9, bs, C7g4 oq, bs]
    cases hx : fs[f]? with
    | none =>
      have ho : obAt fs (8 * f) = none := by
        unfold obAt
        rw [show (8 * f) / 8 = f by omega, hx]
      rw [CF_no h3 ho hQ64, if_neg (show ¬ nI 0 = nI 1 by decide), c_o o147, bs]
      exact mem (fun x e => by rw [hx] at e; cases e) (by rw [tfL_none hx]; unfold ta1; rw [if_neg (by omega), hx])
    | some x =>
      by_cases ca : isAr x.2 x.1 = true
      · have hk1 : ¬ fI τ (10 + 2 * (8 * f)) 4 = nI 1 := by
          cases ho : obAt fs (8 * f) with
          | none => rw [CF_no h3 ho hQ64]; decide
          | some y =>
            obtain ⟨o, n, b, z⟩ := y
            obtain ⟨_, ⟨x', hx', hkd⟩, _⟩ := CF_ob h3 ho
            rw [show 8 * f / 8 = f by omega, hx] at hx'
            have hx' : x = x' := Option.some.inj hx'
            rw [hkd, ← hx', ca]
            cases z <;> decide
        rw [if_neg hk1, c_o o147, bs]
        exact mem (fun x' e => by rw [hx] at e; have e : x = x' := Option.some.inj e; rw [← e]; exact ca) (by unfold ta1; rw [if_neg (by omega), hx]; show (if isAr x.2 x.1 = true then _ else _) = _; rw [if_pos ca])
      · have ca : isAr x.2 x.1 = false := Bool.eq_false_iff.mpr ca
        have ho := obAt_8 hx ca
        obtain ⟨_, ⟨x', hx', hkd⟩, _⟩ := CF_ob h3 ho
        rw [show 8 * f / 8 = f by omega, hx] at hx'
        have hx' : x = x' := Option.some.inj hx'
        rw [hkd, ← hx', ca, show mkd false false = 1 from rfl, if_pos rfl, c_o o147, bs]
        have hnq : 8 * f ∉ s.2.2.1 := fun q => by have := hq _ q; omega
        obtain ⟨sk3, L3, τ3, own3, b1, b2, b3, b4⟩ := k_take1 (F := F) (c := c) hF h hs0 ho hnq
        rw [b1, xb_mk]
        exact go (tkM (sub x.2 0 x.1) (8 * f) s) sk3 L3 τ3 own3 (by unfold ta1; rw [if_neg (by omega), hx]; show _ = (if isAr x.2 x.1 = true then _ else _); rw [if_neg (by rw [ca]; decide)]) b2 b3 b4 tkM_len
end CRS
end
section
/-! defineOwn of the class -/
section COW
variable {F : Nat} {c : px_CT} {sk : Nat → Nat × Nat × Nat} {L : Nat} {τ : px_TT} {a i : Nat} {w : List Nat}
theorem k_setText_6 (ha : ob sk L 5 a) (hsl : xsl i = some (nI w.length)) (hsc : ∀ j, j < w.length → xsc i (nI j) = some (nI (w.getD j 0))) (hw : okN w) : ∀ (d j f : Nat) (τ : px_TT), j + d = w.length → d < f → isNm τ a (w.take j) → ∃ τ', f_Name_setText_6 F c f a i (nI j) (cH sk L τ) = some ((), cH sk L τ') ∧ frN a τ τ' ∧ isNm τ' a w := by
  have hl := hw.1
  intro d
  induction d with
  | zero =>
    intro j f τ hj hf hn
    obtain ⟨f, rfl⟩ : ∃ x, f = x + 1 := ⟨f - 1, by omega⟩
    refine ⟨τ, ?_, frN_refl _ _, ?_⟩
    · unfold f_Name_setText_6 f_Name_setText_29
      rw [hsl, bs, if_pos (nI_le (by omega) (by omega))]
    · rw [List.take_of_length_le (by omega)] at hn
      exact hn
  | succ d ih =>
    intro j f τ hj hf hn
    obtain ⟨f, rfl⟩ : ∃ x, f = x + 1 := ⟨f - 1, by omega⟩
    have hjl : j < w.length := by omega
    have hx : w.getD j 0 < 256 := by
      rw [List.getD_eq_getElem?_getD, List.getElem?_eq_getElem hjl]
      exact hw.2 _ (List.getElem_mem hjl)
    obtain ⟨τ1, a1, a2, a3⟩ := k_append (F := F) (c := c) (x := w.getD j 0) ha hn (by rw [List.length_take]; omega) (fun y hy => hw.2 y (List.mem_of_mem_take hy)) hx
    have e : w.take j ++ [w.getD j 0] = w.take (j + 1) := by
      rw [List.take_succ, List.getD_eq_getElem?_getD, List.getElem?_eq_getElem hjl]
      rfl
    rw [e] at a3
    obtain ⟨τ2, b1, b2, b3⟩ := ih (j + 1) f τ1 (by omega) (by omega) a3
    refine ⟨τ2, ?_, frN_trans a2 b2, b3⟩
    unfold f_Name_setText_6
    rw [hsl, bs, if_neg (nI_ge hjl (by omega)), hsc j hjl, bs, c_o ha, bs, a1, xb_mk, nI_add]
    exact b1
theorem k_setText (hF : 20 < F) (ha : ob sk L 5 a) (hsl : xsl i = some (nI w.length)) (hsc : ∀ j, j < w.length → xsc i (nI j) = some (nI (w.getD j 0))) (hw : okN w) : ∃ τ', f_Name_setText F c a i (cH sk L τ) = some ((), cH sk L τ') ∧ frN a τ τ' ∧ isNm τ' a w := by
  obtain ⟨τ1, a1, a2, a3⟩ := k_wipe (F := F) (c := c) (τ := τ) ha
  have hl := hw.1
  obtain ⟨τ2, b1, b2, b3⟩ := k_setText_6 (F := F) (c := c) ha hsl hsc hw w.length 0 F τ1 (by omega) (by omega) (by rw [List.take_zero]; exact a3)
  refine ⟨τ2, ?_, frN_trans a2 b2, b3⟩
  unfold f_Name_setText
  rw [c_o ha, bs, a1, xb_mk]
  exact b1
theorem xs_16 : xsl 16 = some (nI wO1.length) ∧ (∀ j, j < wO1.length → xsc 16 (nI j) = some (nI (wO1.getD j 0))) ∧ okN wO1 := by
  refine ⟨by decide +kernel, by decide +kernel, by decide, by decide⟩
theorem xs_17 : xsl 17 = some (nI wO2.length) ∧ (∀ j, j < wO2.length → xsc 17 (nI j) = some (nI (wO2.getD j 0))) ∧ okN wO2 := by
  refine ⟨by decide +kernel, by decide +kernel, by decide, by decide⟩
theorem xs_18 : xsl 18 = some (nI wO3.length) ∧ (∀ j, j < wO3.length → xsc 18 (nI j) = some (nI (wO3.getD j 0))) ∧ okN wO3 := by
  refine ⟨by decide +kernel, by decide +kernel, by decide, by decide⟩
theorem xs_19 : xsl 19 = some (nI wO4.length) ∧ (∀ j, j < wO4.length → xsc 19 (nI j) = some (nI (wO4.getD j 0))) ∧ okN wO4 := by
  refine ⟨by decide +kernel, by decide +kernel, by decide, by decide⟩
end COW
/-- the names replaced -/
def sX (s : px_TK) (xs : px_NL) : px_TK := ((s.1.1, xs, s.1.2.2), s.2)
theorem CC1_sX {τ : px_TT} {fs : px_FS} {s : px_TK} {xs xs' : px_NL} {q : Nat} (e : xs'.map Prod.fst = xs.map Prod.fst) (h : CC1 τ fs (sX s xs) q) : CC1 τ fs (sX s xs') q := by
  refine ⟨h.1, fun i w => ?_⟩
  obtain ⟨o, n, b, j, x1, x2, x3, x4, x5, x6⟩ := h.2 i w
  refine ⟨o, n, b, j, x1, x2, x3, x4, x5, ?_⟩
  show idx (yT b j) 0 (xs'.map Prod.fst) = some i
  rw [e]
  exact x6
/-- after the taking -/
def TKo (sk : Nat → Nat × Nat × Nat) (L : Nat) (own : Nat → Nat × Nat) (τ : px_TT) (fs : px_FS) (s : px_TK) (xs : px_NL) : Prop := GS sk L ∧ GR τ ∧ CF sk L τ fs ∧ CK sk L own τ fs (sX s xs) ∧ WK fs s ∧ AL (fun x => x.2.1 ≤ 4) xs ∧ xs.map Prod.fst = s.1.2.1.map Prod.fst ∧ fN τ 147 13 = some 1696
section COX
variable {F : Nat} {c : px_CT} {sk : Nat → Nat × Nat × Nat} {L : Nat} {τ τ' : px_TT} {own : Nat → Nat × Nat} {fs : px_FS} {s : px_TK} {xs : px_NL} {i wh : Nat} {w : List Nat} {gs : List (List Nat × Int64)} {ws : List (List Nat)}
theorem CK_X {P p : Nat} {x : List Nat × px_NR} {f : px_NR → px_NR} (h : CK sk L own τ fs (sX s xs)) (hT : s.2.2.1.length ≤ 64) (hx : xs[P]? = some x) (hp : p = pN τ 149 P) (hf : frX p τ τ') (e15 : fI τ' 147 15 = fI τ 147 15) (e93 : eN τ' 1693 = eN τ 1693) (hc : crec (tB fs s.2.2.1) τ' p (f x.2)) : CK sk L own τ' fs (sX s (setR xs P f)) := by
  obtain ⟨k1, k2, ⟨k3, k4⟩, k5, k6, k7, k8⟩ := h
  obtain ⟨z1, z2, z3, z4⟩ := CLn_at k2 hx
  have zq := (k1 149 P _ (Or.inr (Or.inr rfl)) z2).1
  rw [← hp] at zq
  rw [hp] at hf hc
  have hI : ∀ a j, a < 1815 → (a ≠ 147 ∨ j ≠ 15) → fI τ' a j = fI τ a j := fun a j h1 h2 => hf.1 a j (by omega) h2
  have e149 : eN τ' 149 = eN τ 149 := hf.2.2.2.2.2.2 149 (by decide)
  refine ⟨NP_X k1 hf, CLn_upd k2 k1 hx hf hc (od_keep k2 e15 e93), ⟨(hI 147 14 (by decide) (Or.inr (by decide))).trans k3, (hI 147 17 (by decide) (Or.inr (by decide))).trans k4⟩, fun t q hq => ?_, fun q hq => ⟨(hI _ 15 (by omega) (Or.inl (by omega))).trans (k6 q hq).1, CC1_sX (s := s) (setR_fst : (setR xs P f).map Prod.fst = xs.map Prod.fst) (CC1_fx (k6 q hq).2 (hI _ 16 (by omega) (Or.inl (by omega))))⟩, k7, k8⟩
  obtain ⟨r1, r2, r3⟩ := k5 t q hq
  have ht : t < s.2.2.1.length := (List.getElem?_eq_some_iff.mp hq).1
  refine ⟨fun j hj => isPd_fr (r1 j hj) (fun m => hI _ m (by omega) (Or.inl (by omega))), RSy_nm (RSy_fx r2 e149 (fun j _ => by rw [hf.2.2.2.2.2.2 1692 (by decide)])) ?_, by rw [hf.2.2.2.2.2.2 1689 (by decide)]; exact r3⟩
  show (setR xs P f).map Prod.fst = xs.map Prod.fst
  rw [setR_fst]
end COX
end
section
/-! defineOwn of the class, whole -/
section COY
variable {F : Nat} {c : px_CT} {sk : Nat → Nat × Nat × Nat} {L : Nat} {τ τ' : px_TT} {own : Nat → Nat × Nat} {fs : px_FS} {s : px_TK} {xs : px_NL} {i wh : Nat} {w : List Nat} {gs : List (List Nat × Int64)} {ws : List (List Nat)}
theorem TKo_N (h : TKo sk L own τ fs s xs) (f1 : frN 1695 τ τ') : TKo sk L own τ' fs s xs ∧ frLn xs.length τ τ' := by
  obtain ⟨h1, h2, h3, h4, h5, h6, h7, h8⟩ := h
  have fl : frLn xs.length τ τ' := by
    refine ⟨fun a j _ h _ _ _ _ => f1.1 a j (Or.inl h), fun a j _ h _ => f1.2.1 a j (Or.inl h), fun a j _ _ => f1.2.2.1 a j, f1.2.2.2.1, f1.2.2.2.2.1, fun a _ _ _ _ => f1.2.2.2.2.2 a, fun i _ => by rw [f1.2.2.2.2.2], fun B i p hB hp => ?_⟩
    have := (h4.1 B i p (by omega) hp).1
    exact ⟨fun j => f1.1 p j (Or.inl (by omega)), fun j => f1.2.1 p j (Or.inl (by omega)), fun j => f1.2.2.1 p j⟩
  have hT : (sX s xs).2.2.1.length ≤ 64 := BK_T (s := s) h5.1
  exact ⟨⟨h1, GR_Ln h2 fl, CF_mv h3 EX_refl (SF_Ln fl), CK_fx h4 hT (fun a j h => f1.1 a j (Or.inl h)) (fun a j h => f1.2.1 a j (Or.inl h)) f1.2.2.1 f1.2.2.2.2.2, h5, h6, h7, by rw [f1.2.2.1]; exact h8⟩, fl⟩
theorem k_find1 {t : Nat} (h : TKo sk L own τ fs s xs) (hF : 4128 < F) (ht : ob sk L 5 t) (hw : isNm τ t w) (hok : okN w) : f_Names_find F c 148 (some t) (cH sk L τ) = some ((idx w 0 (xs.map Prod.fst)).map (pN τ 149), cH sk L τ) := by
  have hC := h.2.2.2.1.2.1
  have hl : (xs.map Prod.fst).length ≤ 4128 := hC.1.2.2.2.1
  exact k_find hC.1 ht hw hok (by omega)
theorem k_defineOwn (hF : 65536 < F) (h : TKo sk L own τ fs s xs) (hx3 : xsl i = some (nI w.length) ∧ (∀ j, j < w.length → xsc i (nI j) = some (nI (w.getD j 0))) ∧ okN w) (hwh : wh < 4) : ∃ τ', f_Link_defineOwn F c 147 i (nI wh) (cH sk L τ) = some ((), cH sk L τ') ∧ TKo sk L own τ' fs s (own1 (wh + 1) w xs) ∧ frLn xs.length τ τ' := by
  have hS := h.1
  have o147 := G147 hS
  obtain ⟨τ1, a1, a2, a3⟩ := k_setText (F := F) (c := c) (τ := τ) (by omega) (G1695 hS) hx3.1 hx3.2.1 hx3.2.2
  obtain ⟨t1, f1⟩ := TKo_N h a2
  have hR1 := t1.2.1
  have kf := k_find1 (F := F) (c := c) t1 (by omega) (G1695 hS) a3 hx3.2.2
  have eq : f_Link_defineOwn F c 147 i (nI wh) (cH sk L τ) = (match (idx w 0 (xs.map Prod.fst)).map (pN τ1 149) with
    | none => f_Link_defineOwn_47 F c (cH sk L τ1)
    | some p7 => (xgI (cH sk L τ1) 5 4 p7).bind fun t8 =>
    if t8 = 0 then
      (xpI (cH sk L τ1) 5 4 p7 (nI 3)).bind fun ph9 =>
      (xpI ph9 5 5 p7 (nI 4)).bind fun ph10 =>
      (xpJ ph10 5 7 p7 (nI wh).toInt64).bind fun ph11 =>
      f_Link_defineOwn_47 F c ph11
    else
      f_Link_defineOwn_47 F c (cH sk L τ1)) := by
    unfold f_Link_defineOwn
    rw [C3r11 o147 (GR_r (v := 1695) h.2.1 (by decide)), bs, c_o (G1695 hS), bs, a1, xb_mk, C3r3 o147 (GR_r (v := 148) hR1 (by decide)), bs, C3r11 o147 (GR_r (v := 1695) hR1 (by decide)), bs, c_o (G148 hS), bs, kf, xb_mk]
    rfl
  rw [eq]
  unfold own1
  cases ei : idx w 0 (xs.map Prod.fst) with
  | none => exact ⟨τ1, rfl, t1, f1⟩
  | some P =>
    show ∃ τ', ((xgI (cH sk L τ1) 5 4 (pN τ1 149 P)).bind _) = _ ∧ TKo sk L own τ' fs s (if stN xs P = 0 then setR xs P (fun r => (4, r.2.1, wh + 1, r.2.2.2)) else xs) ∧ _
    have hpl := idx_some ei
    rw [Nat.sub_zero, List.getElem?_map] at hpl
    obtain ⟨x, hx⟩ : ∃ x, xs[P]? = some x := by
      cases e : xs[P]? with
      | none => rw [e] at hpl; cases hpl
      | some x => exact ⟨x, rfl⟩
    obtain ⟨g1, g2, g3, g4, g5, g6, g7, g8⟩ := id t1
    have hC := g4.2.1
    obtain ⟨z1, z2, z3, z4⟩ := CLn_at hC hx
    have zq := (g4.1 149 P _ (Or.inr (Or.inr rfl)) z2).1
    have hcr := (hC.2.1 P _ hx).1
    have hx4 : x.2.1 ≤ 4 := g6 P x hx
    obtain ⟨p, hp⟩ : ∃ p, p = pN τ1 149 P := ⟨_, rfl⟩
    rw [← hp] at z2 z3 z4 zq hcr ⊢
    rw [C5g4 z3, bs, hcr.1, stN_at hx]
    by_cases c0 : x.2.1 = 0
    · rw [if_pos c0, c0, if_neg (show ¬ (0 = 4) by decide), if_pos (show nI 0 = 0 from rfl), C5p4 z3, bs, C5p5 z3, bs, C5p7 z3, bs]
      obtain ⟨τ2, hτ2⟩ : ∃ y, y = tJ (tI (tI τ1 p 4 (nI 3)) p 5 (nI 4)) p 7 (nI wh).toInt64 := ⟨_, rfl⟩
      rw [← hτ2]
      have fx : frX p τ1 τ2 := by
        rw [hτ2]
        refine ⟨fun a j ha _ => ?_, fun a j ha => tJ_ne (Or.inl ha), fun _ _ _ => rfl, ⟨fun j hj => tJ_ne (Or.inr (by omega)), ?_, ?_⟩, fun _ => rfl, fun _ => rfl, fun _ _ => rfl⟩
        · simp only [fI_tJ, fI_tI, ha, false_and, if_false]
        · simp [fI_tJ, fI_tI]
        · simp [fI_tJ, fI_tI]
      have e15 : fI τ2 147 15 = fI τ1 147 15 := by
        rw [hτ2]
        have : ¬ (147 = p) := by omega
        simp only [fI_tJ, fI_tI, this, false_and, if_false]
      have hc2 : crec (tB fs s.2.2.1) τ2 p (4, x.2.2.1, wh + 1, x.2.2.2.2) := by
        obtain ⟨_, ⟨a, b', q1, q2, q3⟩, _, _, q15, q16⟩ := hcr
        refine ⟨?_, ⟨a, b', ?_, ?_, q3⟩, ⟨fun q => (nomatch q), fun _ => ⟨?_, ?_⟩, fun q => (nomatch q), fun q => q.elim (fun q => nomatch q) (fun q => nomatch q), fun q => q.elim (fun q => nomatch q) (fun q => nomatch q)⟩, (fun q => q.elim (fun q => nomatch q) (fun q => q.elim (fun q => nomatch q) (fun q => nomatch q))), by rw [hτ2]; simp only [fI_tJ, fI_tI]; rw [if_neg (by omega), if_neg (by omega)]; exact q15, by rw [hτ2]; simp only [fI_tJ, fI_tI]; rw [if_neg (by omega), if_neg (by omega)]; exact q16⟩
        · rw [if_pos rfl, hτ2]; simp [fI_tJ, fI_tI]
        · rw [hτ2]; simp only [fI_tJ, fI_tI]; rw [if_neg (by omega), if_neg (by omega)]; exact q1
        · rw [hτ2]; simp only [fI_tJ, fI_tI]; rw [if_neg (by omega), if_neg (by omega)]; exact q2
        · rw [hτ2]; simp [fI_tJ, fI_tI]
        · rw [hτ2, tJ_at]
          show (nI wh).toInt64 = lN (wh + 1 - 1)
          rw [Nat.add_sub_cancel, nI_l (by omega)]
      have hk2 := CK_X (f := fun r => (4, r.2.1, wh + 1, r.2.2.2)) g4 (BK_T g5.1) hx hp fx e15 (by rw [hτ2]; rfl) hc2
      have fl2 : frLn xs.length τ1 τ2 := frLn_Tk (t := 0) (frTk_X g4.1 z2 fx) (by decide)
      refine ⟨τ2, rfl, ⟨g1, GR_Ln g2 fl2, CF_mv g3 EX_refl (SF_Ln fl2), hk2, g5, ?_, ?_, ?_⟩, frLn_trans f1 fl2 (Nat.le_refl _)⟩
      · exact AL_setR (P := fun x => x.2.1 ≤ 4) g6 (fun y _ => Nat.le_refl _)
      · rw [setR_fst]; exact g7
      · rw [hτ2]; exact g8
    · rw [if_neg c0, if_neg (show ¬ nI (if x.2.1 = 4 then 3 else x.2.1) = 0 from fun q => by
        have := (nI_eq (b := 0) (by split <;> omega) (by decide)).mp q
        split at this <;> omega)]
      exact ⟨τ1, rfl, t1, f1⟩
theorem own1_lenx {k : Nat} : (own1 k w xs).length = xs.length := own1_len
/-- the four names of the linker -/
theorem k_own4 (hF : 65536 < F) (h : TKo sk L own τ fs s xs) : ∃ τ1 τ2 τ3 τ4, f_Link_defineOwn F c 147 16 (nI 0) (cH sk L τ) = some ((), cH sk L τ1) ∧ f_Link_defineOwn F c 147 17 (nI 1) (cH sk L τ1) = some ((), cH sk L τ2) ∧ f_Link_defineOwn F c 147 18 (nI 2) (cH sk L τ2) = some ((), cH sk L τ3) ∧ f_Link_defineOwn F c 147 19 (nI 3) (cH sk L τ3) = some ((), cH sk L τ4) ∧ TKo sk L own τ4 fs s (ownL xs) ∧ frLn xs.length τ τ4 := by
  obtain ⟨τ1, a1, a2, a3⟩ := k_defineOwn (F := F) (c := c) (wh := 0) hF h xs_16 (by decide)
  obtain ⟨τ2, b1, b2, b3⟩ := k_defineOwn (F := F) (c := c) (wh := 1) hF a2 xs_17 (by decide)
  obtain ⟨τ3, c1, c2, c3⟩ := k_defineOwn (F := F) (c := c) (wh := 2) hF b2 xs_18 (by decide)
  obtain ⟨τ4, d1, d2, d3⟩ := k_defineOwn (F := F) (c := c) (wh := 3) hF c2 xs_19 (by decide)
  rw [own1_len] at b3
  rw [own1_len, own1_len] at c3
  rw [own1_len, own1_len, own1_len] at d3
  exact ⟨τ1, τ2, τ3, τ4, a1, b1, c1, d1, d2, frLn_trans a3 (frLn_trans b3 (frLn_trans c3 d3 (Nat.le_refl _)) (Nat.le_refl _)) (Nat.le_refl _)⟩
end COY
end
section
/-! which names are missed -/
def Fl (w : List Nat) (xs : px_NL) : Prop := ∃ (i : Nat) (x : List Nat × px_NR), xs[i]? = some x ∧ x.1 = w ∧ x.2.2.1 = true
section CFG
variable {w v : List Nat} {xs : px_NL} {dr : Nat → Bool} {t : Nat} {b : Nat → Nat} {fs : px_FS}
theorem Fl_ent (h : Fl w xs) : Fl w (entL v xs) := by
  obtain ⟨i, x, h1, h2, h3⟩ := h
  refine ⟨i, x, ?_, h2, h3⟩
  unfold entL
  split
  · exact h1
  · rw [List.getElem?_append_left (List.getElem?_eq_some_iff.mp h1).1]; exact h1
theorem Fl_set {j : Nat} {f : px_NR → px_NR} (h : Fl w xs) (hf : ∀ r, r.2.1 = true → (f r).2.1 = true) : Fl w (setR xs j f) := by
  obtain ⟨i, x, h1, h2, h3⟩ := h
  unfold setR
  cases e : xs[j]? with
  | none => exact ⟨i, x, h1, h2, h3⟩
  | some y =>
    by_cases c : j = i
    · rw [c, h1] at e
      have e : x = y := Option.some.inj e
      refine ⟨i, (y.1, f y.2), ?_, by rw [← e]; exact h2, hf _ (by rw [← e]; exact h3)⟩
      show (xs.set j (y.1, f y.2))[i]? = _
      rw [c, List.getElem?_set_self (List.getElem?_eq_some_iff.mp h1).1]
    · refine ⟨i, x, ?_, h2, h3⟩
      show (xs.set j (y.1, f y.2))[i]? = _
      rw [List.getElem?_set_ne c]
      exact h1
theorem cmS_2 {s t k z v : Nat} {r : px_NR} : (cmS s t k z v r).2.1 = r.2.1 := by
  unfold cmS dfR cmR
  repeat (first | rfl | split)
/-- comG keeps flags -/
theorem Fl_com {S : Nat} {Y : List Nat} {f g : px_NR → px_NR} {od : List Nat} (h : Fl w xs) (hf : ∀ r, r.2.1 = true → (f r).2.1 = true) (hg : ∀ r, r.2.1 = true → (g r).2.1 = true) : Fl w (comG S Y f g (xs, od)).2.1 := by
  unfold comG
  by_cases c : S = 0
  · rw [if_pos c]; exact Fl_set (Fl_ent h) hf
  · rw [if_neg c]
    split
    · exact Fl_ent h
    · exact Fl_set (Fl_ent h) hg
theorem Fl_tkG {B S : Nat} {Y : List Nat} {f g : px_NR → px_NR} {s : px_TS} (h : Fl w s.2.1) (hf : ∀ r, r.2.1 = true → (f r).2.1 = true) (hg : ∀ r, r.2.1 = true → (g r).2.1 = true) : Fl w (tkG B S Y f g s).2.1 := by
  unfold tkG
  by_cases c0 : B = 0
  · rw [if_pos c0]; exact h
  · rw [if_neg c0]
    by_cases c1 : s.1 = 1
    · rw [if_pos c1]; exact Fl_ent h
    · rw [if_neg c1]
      split
      · exact Fl_com h hf hg
      · exact Fl_com h hf hg
theorem Fl_tk {k : Nat} {s : px_TS} (h : Fl w s.2.1) : Fl w (tk1 dr t b k s).2.1 := by
  rw [tk1_G]
  exact Fl_tkG h (fun r hr => by show (r.2.1 || _) = true; rw [hr]; rfl) (fun r hr => by rw [cmS_2]; exact hr)
theorem Fl_tks : ∀ (d k : Nat) (s : px_TS), Fl w s.2.1 → Fl w (itr (tk1 dr t b) k d s).2.1 := by
  intro d
  induction d with
  | zero => intro k s h; exact h
  | succ d ih => intro k s h; rw [itr_s]; exact ih _ _ (Fl_tk h)
theorem Fl_newG {B S : Nat} {Y : List Nat} {f g : px_NR → px_NR} {s : px_TS} (hB : B ≠ 0) (hS : S = 0) (h1 : s.1 ≠ 1) (hf : ∀ r, (f r).2.1 = true) : Fl Y (tkG B S Y f g s).2.1 := by
  unfold tkG comG
  rw [if_neg hB, if_neg h1, if_pos hS, if_pos rfl]
  obtain ⟨r, p1, p2⟩ := plc_at (w := Y) (xs := s.2.1)
  refine ⟨plc Y (s.2.1.map Prod.fst), (Y, f r), ?_, rfl, hf r⟩
  show (setR (entL Y s.2.1) (plc Y (s.2.1.map Prod.fst)) f)[plc Y (s.2.1.map Prod.fst)]? = _
  rw [setR_at p1, List.getElem?_set_self p2]
theorem tk1_1 {k : Nat} {s : px_TS} (h : s.1 = 1) : (tk1 dr t b k s).1 = 1 := by
  unfold tk1
  split
  · exact h
  · rfl
theorem tks_1 : ∀ (d k : Nat) (s : px_TS), s.1 = 1 → (itr (tk1 dr t b) k d s).1 = 1 := by
  intro d
  induction d with
  | zero => intro k s h; exact h
  | succ d ih => intro k s h; rw [itr_s]; exact ih _ _ (tk1_1 h)
/-- every symbol that is missed leaves its mark -/
theorem Fl_all : ∀ (d k : Nat) (s : px_TS), (itr (tk1 dr t b) k d s).1 ≠ 1 → ∀ j, k ≤ j → j < k + d → yB b j = 1 → wNo dr t b j = 0 → Fl (yT b j) (itr (tk1 dr t b) k d s).2.1 := by
  intro d
  induction d with
  | zero => intro k s _ j h1 h2; omega
  | succ d ih =>
    intro k s h j h1 h2 hB hw
    rw [itr_s] at h ⊢
    by_cases c : j = k
    · refine Fl_tks d (k + 1) _ ?_
      rw [c] at hB hw ⊢
      have hs1 : s.1 ≠ 1 := fun q => h (tks_1 d (k + 1) _ (tk1_1 q))
      rw [tk1_G]
      exact Fl_newG (by rw [hB]; decide) (by unfold sOf; rw [if_pos hw]) hs1 (fun r => by show (r.2.1 || decide (yB b k = 1)) = true; rw [decide_eq_true hB, Bool.or_true])
    · exact ih (k + 1) _ h j (by omega) (by omega) hB hw
/-- a mark has a reason -/
def FbP (Q : List Nat → Prop) (x : List Nat × px_NR) : Prop := x.2.2.1 = true → Q x.1
theorem Fb_tk {Q : List Nat → Prop} {k : Nat} {s : px_TS} (hQ : yB b k = 1 → wNo dr t b k = 0 → Q (yT b k)) (h : AL (FbP Q) s.2.1) : AL (FbP Q) (tk1 dr t b k s).2.1 := by
  have hE : AL (FbP Q) (entL (yT b k) s.2.1) := AL_ent h (fun q => nomatch q)
  obtain ⟨r, p1, p2⟩ := plc_at (w := yT b k) (xs := s.2.1)
  have h1 : sOf dr t b k = 0 → AL (FbP Q) (setR (entL (yT b k) s.2.1) (plc (yT b k) (s.2.1.map Prod.fst)) (fun r => (r.1, (r.2.1 || decide (yB b k = 1)), r.2.2))) := fun hS => AL_setR hE (fun x hx q => by
    have q : (x.2.2.1 || decide (yB b k = 1)) = true := q
    rw [p1] at hx
    have hx : (yT b k, r) = x := Option.some.inj hx
    rcases (Bool.or_eq_true _ _).mp q with q | q
    · exact hE _ x (by rw [← hx]; exact p1) q
    · have hw : wNo dr t b k = 0 := by
        by_cases c : wNo dr t b k = 0
        · exact c
        · rw [sOf_w c] at hS
          split at hS
          · cases hS
          · split at hS <;> cases hS
      show Q x.1
      rw [← hx]
      exact hQ (of_decide_eq_true q) hw)
  have h2 : AL (FbP Q) (setR (entL (yT b k) s.2.1) (plc (yT b k) (s.2.1.map Prod.fst)) (cmS (sOf dr t b k) t k (yZ b k) (yV b k))) := AL_setR hE (fun x hx q => by
    have q : (cmS (sOf dr t b k) t k (yZ b k) (yV b k) x.2).2.1 = true := q
    rw [cmS_2] at q
    exact hE _ x hx q)
  rw [tk1_G]
  generalize sOf dr t b k = S at *
  generalize hY : yT b k = Y at *
  generalize hg : cmS S t k (yZ b k) (yV b k) = g at *
  generalize hf : (fun r : px_NR => (r.1, (r.2.1 || decide (yB b k = 1)), r.2.2)) = f0 at *
  generalize yB b k = B at *
  unfold tkG
  by_cases c0 : B = 0
  · rw [if_pos c0]; exact h
  · rw [if_neg c0]
    by_cases c1 : s.1 = 1
    · rw [if_pos c1]; exact hE
    · rw [if_neg c1]
      have hc : AL (FbP Q) (comG S Y f0 g (s.2.1, s.2.2.1)).2.1 := by
        unfold comG
        by_cases d1 : S = 0
        · rw [if_pos d1]; exact h1 d1
        · rw [if_neg d1]
          split
          · exact hE
          · exact h2
      split
      · exact hc
      · exact hc
/-- the reasons for a mark -/
def Rsn (fs : px_FS) (ws : List (List Nat)) (s : px_TK) (w : List Nat) : Prop := w ∈ ws ∨ ∃ t k, t < s.2.2.1.length ∧ (1 ≤ k ∧ k < oM (tB fs s.2.2.1 t)) ∧ yB (tB fs s.2.2.1 t) k = 1 ∧ wNo s.2.1.1 t (tB fs s.2.2.1 t) k = 0 ∧ yT (tB fs s.2.2.1 t) k = w
def FgI (fs : px_FS) (ws : List (List Nat)) (s : px_TK) : Prop := (∀ w, w ∈ ws → Fl w s.1.2.1) ∧ (s.1.1 ≠ 1 → ∀ t k, t < s.2.2.1.length → 1 ≤ k → k < oM (tB fs s.2.2.1 t) → yB (tB fs s.2.2.1 t) k = 1 → wNo s.2.1.1 t (tB fs s.2.2.1 t) k = 0 → Fl (yT (tB fs s.2.2.1 t) k) s.1.2.1) ∧ AL (FbP (Rsn fs ws s)) s.1.2.1
theorem FgI_tk {ws : List (List Nat)} {s : px_TK} {q o n : Nat} {b : Nat → Nat} (h : FgI fs ws s) (hq : obAt fs q = some (o, n, b, false)) (he : eObj b n = 0) : FgI fs ws (tkM b q s) := by
  obtain ⟨h1, h2, h3⟩ := h
  obtain ⟨w, hy, hg⟩ := eObj_0 he
  have hS := w.1.2.1
  have hdr : ∀ t k, t < s.2.2.1.length → wNo (itr (dg1 s.2.2.1.length b) 1 (oS b - 1) s.2.1).1 t (tB fs s.2.2.1 t) k = wNo s.2.1.1 t (tB fs s.2.2.1 t) k := fun t k ht => wNo_dr (fun x hx => dgs_out hg (by omega) (Or.inl (by omega)) s.2.1)
  have hl : (tkM b q s).2.2.1 = s.2.2.1 ++ [q] := rfl
  have hl2 : (s.2.2.1 ++ [q]).length = s.2.2.1.length + 1 := by rw [List.length_append]; rfl
  have e2 := tB_2 (tq := s.2.2.1) hq
  have e1 : ∀ t, t < s.2.2.1.length → tB fs (s.2.2.1 ++ [q]) t = tB fs s.2.2.1 t := fun t ht => tB_1 ht
  have hd : (tkM b q s).2.1.1 = (itr (dg1 s.2.2.1.length b) 1 (oS b - 1) s.2.1).1 := rfl
  have hx1 : (tkM b q s).1 = itr (tk1 (itr (dg1 s.2.2.1.length b) 1 (oS b - 1) s.2.1).1 s.2.2.1.length b) 1 (oM b - 1) s.1 := rfl
  refine ⟨fun v hv => ?_, fun h0 t k ht k1 k2 k3 k4 => ?_, ?_⟩
  · rw [hx1]; exact Fl_tks _ _ _ (h1 v hv)
  · rw [hl] at ht k2 k3 k4 ⊢
    rw [hd] at k4
    rw [hl2] at ht
    rw [hx1] at h0 ⊢
    by_cases c : t < s.2.2.1.length
    · rw [e1 t c] at k2 k3 k4 ⊢
      rw [hdr t k c] at k4
      exact Fl_tks _ _ _ (h2 (fun z => h0 (tks_1 _ _ _ z)) t k c k1 k2 k3 k4)
    · have e : t = s.2.2.1.length := by omega
      rw [e, e2] at k2 k3 k4 ⊢
      exact Fl_all _ _ _ h0 k k1 (by omega) k3 k4
  · have hm : AL (FbP (Rsn fs ws (tkM b q s))) s.1.2.1 := AL_mono h3 (fun x hx z => by
      rcases hx z with r | ⟨t, k, r1, r2, r3, r4, r5⟩
      · exact Or.inl r
      · refine Or.inr ⟨t, k, by rw [hl, hl2]; omega, ?_⟩
        rw [hl, hd, e1 t r1, hdr t k r1]
        exact ⟨r2, r3, r4, r5⟩)
    rw [hx1]
    by_cases c0 : oM b = 0
    · rw [c0]; exact hm
    · refine itr_inv (g := tk1 _ s.2.2.1.length b) (P := fun s' : px_TS => AL (FbP (Rsn fs ws (tkM b q s))) s'.2.1) (a := 1) (e := oM b) (fun k s' k1 k2 hs' => Fb_tk (fun z1 z2 => ?_) hs') (oM b - 1) 1 s.1 (Nat.le_refl _) (by omega) hm
      refine Or.inr ⟨s.2.2.1.length, k, by rw [hl, hl2]; omega, ?_⟩
      rw [hl, hd, e2]
      exact ⟨⟨k1, k2⟩, z1, z2, rfl⟩
/-- a property of all that is taken -/
theorem TKK_inv {P : px_TK → Prop} (hca : ∀ s ca, P s → P (s.1, s.2.1, s.2.2.1, ca)) (hP : ∀ s q o n b, P s → obAt fs q = some (o, n, b, false) → eObj b n = 0 → P (tkM b q s)) (hf : FSo fs) {xs : px_NL} {od : List Nat} (h0 : P ((0, xs, od, none), (fun _ => false, 0, []), [], fun _ => none)) : P (taL fs xs od) := by
  have ht1 : ∀ f k (p : px_TK × Bool), P p.1 → P (tf1 fs f k p).1 := fun f k p h => by
    rcases tf1_cs2 (fs := fs) (f := f) (k := k) (p := p) with e | ⟨o, n, b, ca, h1, h2, e⟩
    · rw [e]; exact h
    · rw [e]
      exact hP _ _ o n _ (hca _ ca h) h1 (hf _ _ _ _ h1).2
  have htL : ∀ f c s, P s → P (tfL fs f c s) := fun f c s h => by
    unfold tfL
    refine whl_inv (st := tfS) (g := rdF fs f) (P := P) (fun s hs => ?_) c s h
    unfold rdF
    exact itr_inv (g := tf1 fs f) (P := fun p : px_TK × Bool => P p.1) (a := 0) (e := 8) (fun k p _ _ hp => ht1 f k p hp) 8 0 (s, false) (Nat.le_refl _) (Nat.le_refl _) hs
  have hta : ∀ f s, P s → P (ta1 fs f s) := fun f s h => by
    unfold ta1
    split
    · exact h
    · split
      · exact h
      · rename_i x hx
        split
        · exact htL f 9 s h
        · rename_i ea
          have hob := obAt_8 hx (Bool.eq_false_iff.mpr ea)
          exact hP _ _ _ _ _ h hob (hf _ _ _ _ hob).2
  unfold taL
  exact itr_inv (g := ta1 fs) (P := P) (a := 0) (e := 8) (fun f s _ _ h => hta f s h) 8 0 _ (Nat.le_refl _) (Nat.le_refl _) h0
end CFG
end
section
/-! names left without a definition: as the class asks, and as the document does -/
section CFH
variable {w : List Nat} {xs : px_NL} {fs : px_FS} {ws : List (List Nat)} {s : px_TK} {gs : List (List Nat × Int64)}
theorem tlG_Fb {Q : List Nat → Prop} : ∀ (l : List (List Nat × Int64)) (p : px_NL × List Nat), AL (FbP Q) p.1 → AL (FbP Q) (tlG l p).1
  | [], p, h => h
  | g :: l, p, h => by
    unfold tlG
    refine tlG_Fb l _ ?_
    have hE : AL (FbP Q) (entL g.1 p.1) := AL_ent h (fun q => nomatch q)
    exact AL_setR hE (fun x hx q => hE _ x hx q)
theorem tlW_Fb {Q : List Nat → Prop} : ∀ (l : List (List Nat)) (xs : px_NL), (∀ w, w ∈ l → Q w) → AL (FbP Q) xs → AL (FbP Q) (tlW l xs)
  | [], xs, _, h => h
  | v :: l, xs, hQ, h => by
    unfold tlW
    refine tlW_Fb l _ (fun w hw => hQ w (List.mem_cons_of_mem _ hw)) ?_
    have hE : AL (FbP Q) (entL v xs) := AL_ent h (fun q => nomatch q)
    obtain ⟨r, p1, p2⟩ := plc_at (w := v) (xs := xs)
    refine AL_setR hE (fun x hx q => ?_)
    rw [p1] at hx
    have hx : (v, r) = x := Option.some.inj hx
    show Q x.1
    rw [← hx]
    exact hQ v (List.mem_cons_self ..)
theorem tlW_Fl : ∀ (l : List (List Nat)) (xs : px_NL), (∀ w, Fl w xs → Fl w (tlW l xs)) ∧ ∀ w, w ∈ l → Fl w (tlW l xs)
  | [], xs => ⟨fun w h => h, fun w h => nomatch h⟩
  | v :: l, xs => by
    unfold tlW
    obtain ⟨i1, i2⟩ := tlW_Fl l (setR (entL v xs) (plc v (xs.map Prod.fst)) wsR)
    obtain ⟨r, p1, p2⟩ := plc_at (w := v) (xs := xs)
    refine ⟨fun w h => i1 w (Fl_set (Fl_ent h) (fun _ _ => rfl)), fun w h => ?_⟩
    rcases List.mem_cons.mp h with e | e
    · rw [e]
      refine i1 v ⟨plc v (xs.map Prod.fst), (v, wsR r), ?_, rfl, rfl⟩
      rw [setR_at p1, List.getElem?_set_self p2]
    · exact i2 w e
theorem FgI_0 : FgI fs ws ((0, xs0 gs ws, od0 gs, none), (fun _ => false, 0, []), [], fun _ => none) := by
  refine ⟨fun w hw => (tlW_Fl ws _).2 w hw, fun _ t k ht => absurd ht (Nat.not_lt_zero t), ?_⟩
  show AL (FbP _) (xs0 gs ws)
  exact tlW_Fb ws _ (fun w hw => Or.inl hw) (tlG_Fb gs ([], []) (fun i x hx => by rw [List.getElem?_nil] at hx; cases hx))
theorem FgI_taL (hf : FSo fs) : FgI fs ws (taL fs (xs0 gs ws) (od0 gs)) := TKK_inv (P := FgI fs ws) (fun s ca h => h) (fun s q o n b h h1 h2 => FgI_tk h h1 h2) hf FgI_0
def flN (xs : px_NL) (i : Nat) : Bool := (xs.getD i ([], nr0)).2.2.1
theorem flN_at {i : Nat} {x : List Nat × px_NR} (h : xs[i]? = some x) : flN xs i = x.2.2.1 := by
  unfold flN
  rw [List.getD_eq_getElem?_getD, h]
  rfl
theorem flN_set {i j : Nat} {f : px_NR → px_NR} (hf : ∀ r, (f r).2.1 = r.2.1) : flN (setR xs i f) j = flN xs j := by
  unfold setR
  cases e : xs[i]? with
  | none => rfl
  | some x =>
    show flN (xs.set i (x.1, f x.2)) j = _
    by_cases c : i = j
    · rw [flN_at (x := (x.1, f x.2)) (by rw [← c, List.getElem?_set_self (List.getElem?_eq_some_iff.mp e).1]), flN_at (x := x) (by rw [← c]; exact e)]
      exact hf x.2
    · unfold flN
      rw [List.getD_eq_getElem?_getD, List.getD_eq_getElem?_getD, List.getElem?_set_ne c]
theorem flN_own1 {k j : Nat} : flN (own1 k w xs) j = flN xs j := by
  unfold own1
  split
  · rfl
  · split
    · exact flN_set (fun r => rfl)
    · rfl
theorem flN_own {j : Nat} : flN (ownL xs) j = flN xs j := by
  unfold ownL
  rw [flN_own1, flN_own1, flN_own1, flN_own1]
theorem Fl_flN (hnd : (xs.map Prod.fst).Nodup) (h : Fl w xs) : flN xs (plc w (xs.map Prod.fst)) = true := by
  obtain ⟨i, x, h1, h2, h3⟩ := h
  have e : idx w 0 (xs.map Prod.fst) = some i := idx_nd hnd (by rw [List.getElem?_map, h1]; exact congrArg some h2)
  unfold plc
  rw [e]
  show flN xs i = true
  rw [flN_at h1]
  exact h3
theorem flN_Fb {Q : List Nat → Prop} (h : AL (FbP Q) xs) (hw : w ∈ xs.map Prod.fst) (hf : flN xs (plc w (xs.map Prod.fst)) = true) : Q w := by
  have hp := plc_get hw
  rw [List.getElem?_map] at hp
  cases e : xs[plc w (xs.map Prod.fst)]? with
  | none => rw [e] at hp; cases hp
  | some x =>
    rw [e] at hp
    have hp : x.1 = w := Option.some.inj hp
    rw [flN_at e] at hf
    rw [← hp]
    exact h _ x e hf
/-- wanted: missed or wished, and without a definition -/
def wnN (xs : px_NL) (w : List Nat) : Bool := decide (stN xs (plc w (xs.map Prod.fst)) = 0) && flN xs (plc w (xs.map Prod.fst))
def clW (ws : List (List Nat)) (xs : px_NL) (i : Nat) : Bool := wnN xs (ws.getD i [])
def clY (xs : px_NL) (b : Nat → Nat) (j : Nat) : Bool := hsN b j && wnN xs (yT b j)
def clT (tb : Nat → Nat → Nat) (xs : px_NL) (t : Nat) : Bool := ex1 (clY xs (tb t)) 0 64
def clA (ws : List (List Nat)) (tb : Nat → Nat → Nat) (T : Nat) (xs : px_NL) : Bool := ex1 (clW ws xs) 0 ws.length || (ex1 (clT tb xs) 0 T || (dfI wST xs).isNone)
theorem clA_lk (hW : WK fs s) (hf : FgI fs ws s) (h0 : s.1.1 ≠ 1) (hM : ∀ t, t < s.2.2.1.length → oM (tB fs s.2.2.1 t) ≤ 64) : clA ws (tB fs s.2.2.1) s.2.2.1.length (ownL s.1.2.1) = lkA fs ws s (ownL s.1.2.1) := by
  have hnd : (s.1.2.1.map Prod.fst).Nodup := hW.2.2.2.1
  have hnm : (ownL s.1.2.1).map Prod.fst = s.1.2.1.map Prod.fst := ownL_fst
  obtain ⟨f1, f2, f3⟩ := hf
  have hfl : ∀ w, Fl w s.1.2.1 → flN (ownL s.1.2.1) (plc w ((ownL s.1.2.1).map Prod.fst)) = true := fun w h => by
    rw [flN_own, hnm]; exact Fl_flN hnd h
  have hws : ∀ i, i < ws.length → ws.getD i [] ∈ ws := fun i hi => by
    rw [List.getD_eq_getElem?_getD, List.getElem?_eq_getElem hi]
    exact List.getElem_mem hi
  have eW : ∀ i, i < ws.length → clW ws (ownL s.1.2.1) i = lkW ws (ownL s.1.2.1) i := fun i hi => by
    unfold clW wnN lkW
    rw [hfl _ (f1 _ (hws i hi)), Bool.and_true]
  have eT : ∀ t, t < s.2.2.1.length → lkT fs s (ownL s.1.2.1) t = ex1 (lkY s.2.1.1 (ownL s.1.2.1) t (tB fs s.2.2.1 t)) 1 (oM (tB fs s.2.2.1 t) - 1) := fun t ht => by
    obtain ⟨q, q1, q2, q3⟩ := obT_at hW.1 ht
    unfold lkT
    rw [q1]
    show (match obAt fs q with
      | none => false
      | some y => ex1 (lkY s.2.1.1 (ownL s.1.2.1) t y.2.2.1) 1 (oM y.2.2.1 - 1)) = _
    rw [q3]
  apply Bool.eq_iff_iff.mpr
  unfold clA lkA
  rw [Bool.or_eq_true, Bool.or_eq_true, Bool.or_eq_true, Bool.or_eq_true, ex1_iff, ex1_iff, ex1_iff, ex1_iff]
  have hin : ∀ t, t < s.2.2.1.length → ∀ k, 1 ≤ k → k < oM (tB fs s.2.2.1 t) → yB (tB fs s.2.2.1 t) k ≠ 0 → yT (tB fs s.2.2.1 t) k ∈ s.1.2.1.map Prod.fst := fun t ht k k1 k2 k3 => hW.2.2.1 t k ht k1 k2 k3
  constructor
  · rintro (⟨i, i1, i2, i3⟩ | ⟨t, t1, t2, t3⟩ | h)
    · exact Or.inl ⟨i, i1, i2, by rw [← eW i (by omega)]; exact i3⟩
    · obtain ⟨j, j1, j2, j3⟩ := ex1_iff.mp t3
      obtain ⟨g1, g2⟩ := (Bool.and_eq_true _ _).mp j3
      obtain ⟨g3, g4⟩ := (Bool.and_eq_true _ _).mp g2
      obtain ⟨m1, m2, m3⟩ := of_decide_eq_true g1
      rw [flN_own, hnm] at g4
      have hst := of_decide_eq_true g3
      rcases flN_Fb f3 (hin t (by omega) j m1 m2 m3) g4 with r | ⟨t', k', r1, ⟨r2, r2'⟩, r3, r4, r5⟩
      · obtain ⟨i, hi⟩ := List.getElem?_of_mem r
        refine Or.inl ⟨i, Nat.zero_le _, by have := (List.getElem?_eq_some_iff.mp hi).1; omega, decide_eq_true ?_⟩
        rw [List.getD_eq_getElem?_getD, hi]
        exact hst
      · refine Or.inr (Or.inl ⟨t', Nat.zero_le _, by omega, ?_⟩)
        rw [eT t' r1]
        refine ex1_iff.mpr ⟨k', r2, by omega, ?_⟩
        unfold lkY
        rw [decide_eq_true r3, decide_eq_true r4, r5, decide_eq_true hst]
        rfl
    · exact Or.inr (Or.inr h)
  · rintro (⟨i, i1, i2, i3⟩ | ⟨t, t1, t2, t3⟩ | h)
    · exact Or.inl ⟨i, i1, i2, by rw [eW i (by omega)]; exact i3⟩
    · rw [eT t (by omega)] at t3
      obtain ⟨j, j1, j2, j3⟩ := ex1_iff.mp t3
      obtain ⟨g1, g2⟩ := (Bool.and_eq_true _ _).mp j3
      obtain ⟨g3, g4⟩ := (Bool.and_eq_true _ _).mp g2
      have b1 := of_decide_eq_true g1
      have hMt := hM t (by omega)
      refine Or.inr (Or.inl ⟨t, t1, t2, ex1_iff.mpr ⟨j, Nat.zero_le _, by omega, ?_⟩⟩)
      unfold clY wnN
      rw [show hsN (tB fs s.2.2.1 t) j = true from decide_eq_true ⟨j1, by omega, by rw [b1]; decide⟩, g4, hfl _ (f2 h0 t j (by omega) j1 (by omega) b1 (of_decide_eq_true g3))]
      rfl
    · exact Or.inr (Or.inr h)
end CFH
end
section
/-! isNameLeft of the class -/
section CLF
variable {F : Nat} {c : px_CT} {sk : Nat → Nat × Nat × Nat} {L : Nat} {τ : px_TT} {own : Nat → Nat × Nat} {fs : px_FS} {s : px_TK} {xs : px_NL} {ws : List (List Nat)} {w : List Nat}
/-- a name of the link is blamed -/
def BLn (τ τ' : px_TT) (xs : px_NL) : Prop := ∃ P, P < xs.length ∧ τ' = tN τ 147 13 (some (pN τ 149 P))
theorem k_wn (h : TKo sk L own τ fs s xs) (hw : w ∈ xs.map Prod.fst) : f_Link_isWanted F c (some (pN τ 149 (plc w (xs.map Prod.fst)))) (cH sk L τ) = some (bI (wnN xs w), cH sk L τ) ∧ plc w (xs.map Prod.fst) < xs.length := by
  have hl := plc_lt hw
  rw [List.length_map] at hl
  obtain ⟨P, hP⟩ : ∃ P, P = plc w (xs.map Prod.fst) := ⟨_, rfl⟩
  unfold wnN
  rw [← hP] at hl ⊢
  have hx := List.getElem?_eq_getElem hl
  generalize xs[P] = x at hx
  have hC := h.2.2.2.1.2.1
  obtain ⟨z1, z2, z3, z4⟩ := CLn_at hC hx
  have hcr := (hC.2.1 P _ hx).1
  rw [stN_at hx, flN_at hx]
  exact ⟨k_isWanted z3 hcr (h.2.2.2.2.2.1 P x hx), hl⟩
theorem k_nl_2 (hF : 65536 < F) (h : TKo sk L own τ fs s xs) (hc : CW sk L τ ws) (hws : ∀ w, w ∈ ws → w ∈ xs.map Prod.fst) : ∀ (d i f : Nat), i + d = ws.length → d < f → (ex1 (clW ws xs) i d = true ∧ ∃ τ', f_Link_isNameLeft_2 F c f 147 (nI i) (cH sk L τ) = some (nI 1, cH sk L τ') ∧ BLn τ τ' xs) ∨ (ex1 (clW ws xs) i d = false ∧ f_Link_isNameLeft_2 F c f 147 (nI i) (cH sk L τ) = f_Link_isNameLeft_53 F c 147 (cH sk L τ)) := by
  have hS := h.1
  have hR := h.2.1
  have o147 := G147 hS
  have hl16 : ws.length ≤ 16 := hc.2.2.2.1
  have hlx : (xs.map Prod.fst).length ≤ 4128 := h.2.2.2.1.2.1.1.2.2.2.1
  intro d
  induction d with
  | zero =>
    intro i f hi hf
    obtain ⟨f, rfl⟩ : ∃ x, f = x + 1 := ⟨f - 1, by omega⟩
    refine Or.inr ⟨rfl, ?_⟩
    unfold f_Link_isNameLeft_2
    rw [C3r2 o147 (GR_r (v := 143) hR (by decide)), bs, C6g2 hc.1, bs, hc.2.2.2.2.2.1, if_pos (nI_le (by omega) (by omega))]
  | succ d ih =>
    intro i f hi hf
    obtain ⟨f, rfl⟩ : ∃ x, f = x + 1 := ⟨f - 1, by omega⟩
    have hil : i < ws.length := by omega
    have hgi := List.getElem?_eq_getElem hil
    have hmem := List.getElem_mem hil
    have hgd : ws.getD i [] = ws[i] := by rw [List.getD_eq_getElem?_getD, hgi]; rfl
    generalize ws[i] = w at hgi hmem hgd
    obtain ⟨n1, n2, n3, n4, n5⟩ := k_natG (F := F) (c := c) hc hgi
    have kf := k_find1 (F := F) (c := c) h (by omega) n2 n3 n4
    have hwx := hws w hmem
    have hidx : idx w 0 (xs.map Prod.fst) = some (plc w (xs.map Prod.fst)) := by
      obtain ⟨j, hj⟩ := Option.isSome_iff_exists.mp (idx_iff.mpr hwx)
      unfold plc
      rw [hj]
      rfl
    rw [hidx] at kf
    obtain ⟨kw, hpl⟩ := k_wn (F := F) (c := c) h hwx
    have ecl : clW ws xs i = wnN xs w := by unfold clW; rw [hgd]
    rw [ex1_s, ecl]
    generalize plc w (xs.map Prod.fst) = P at *
    have eq : f_Link_isNameLeft_2 F c (f + 1) 147 (nI i) (cH sk L τ) = if bI (wnN xs w) = 0 then f_Link_isNameLeft_47 F c (f_Link_isNameLeft_2 F c f) 147 (nI i) (cH sk L τ) else f_Link_isNameLeft_40 F c 147 (some (pN τ 149 P)) (cH sk L τ) := by
      conv => lhs; unfold f_Link_isNameLeft_2
      rw [C3r2 o147 (GR_r (v := 143) hR (by decide)), bs, C6g2 hc.1, bs, hc.2.2.2.2.2.1, if_neg (nI_ge hil (by omega)), C3r3 o147 (GR_r (v := 148) hR (by decide)), bs, bs, c_o hc.1, bs, n1, xb_mk, c_o (G148 hS), bs, kf, xb_mk]
      show (xb (f_Link_isWanted F c (some (pN τ 149 P)) (cH sk L τ)) _) = _
      rw [kw, xb_mk]
    rw [eq]
    cases wnN xs w with
    | true =>
      refine Or.inl ⟨rfl, _, ?_, P, hpl, rfl⟩
      rw [if_neg (show ¬ bI true = 0 by decide)]
      unfold f_Link_isNameLeft_40
      rw [C3w13 o147, bs]
    | false =>
      rw [if_pos (show bI false = 0 from rfl), Bool.false_or]
      unfold f_Link_isNameLeft_47
      rw [nI_add]
      exact ih (i + 1) f (by omega) (by omega)
theorem k_nl_65 {k55 : Nat → Int32 → px_H → Option (Int32 × px_H)} {t q : Nat} (hF : 65536 < F) (h : TKo sk L own τ fs s xs) (hq : s.2.2.1[t]? = some q) : ∀ (d j f : Nat), j + d = 64 → d < f → (ex1 (clY xs (tB fs s.2.2.1 t)) j d = true ∧ ∃ τ', f_Link_isNameLeft_65 F c k55 f 147 (nI t) (nI j) (cH sk L τ) = some (nI 1, cH sk L τ') ∧ BLn τ τ' xs) ∨ (ex1 (clY xs (tB fs s.2.2.1 t)) j d = false ∧ f_Link_isNameLeft_65 F c k55 f 147 (nI t) (nI j) (cH sk L τ) = k55 147 (nI (t + 1)) (cH sk L τ)) := by
  have hS := h.1
  have hR := h.2.1
  have o147 := G147 hS
  have ht : t < 64 := by
    have h1 := (List.getElem?_eq_some_iff.mp hq).1
    have h2 := BK_T (s := s) h.2.2.2.2.1.1
    omega
  obtain ⟨_, hRS, _⟩ := h.2.2.2.1.2.2.2.1 t q hq
  have hRS : RSy τ t (tB fs s.2.2.1 t) xs 64 := hRS
  intro d
  induction d with
  | zero =>
    intro j f hj hf
    obtain ⟨f, rfl⟩ : ∃ x, f = x + 1 := ⟨f - 1, by omega⟩
    refine Or.inr ⟨rfl, ?_⟩
    unfold f_Link_isNameLeft_65 f_Link_isNameLeft_102
    rw [if_pos (nI_le (by omega) (by omega)), nI_add]
  | succ d ih =>
    intro j f hj hf
    obtain ⟨f, rfl⟩ : ∃ x, f = x + 1 := ⟨f - 1, by omega⟩
    have hj64 : j < 64 := by omega
    obtain ⟨y1, y2⟩ := hRS j hj64
    rw [ex1_s]
    have next : clY xs (tB fs s.2.2.1 t) j = false → f_Link_isNameLeft_65 F c k55 (f + 1) 147 (nI t) (nI j) (cH sk L τ) = f_Link_isNameLeft_65 F c k55 f 147 (nI t) (nI (j + 1)) (cH sk L τ) → ((clY xs (tB fs s.2.2.1 t) j || ex1 (clY xs (tB fs s.2.2.1 t)) (j + 1) d) = true ∧ ∃ τ', f_Link_isNameLeft_65 F c k55 (f + 1) 147 (nI t) (nI j) (cH sk L τ) = some (nI 1, cH sk L τ') ∧ BLn τ τ' xs) ∨ ((clY xs (tB fs s.2.2.1 t) j || ex1 (clY xs (tB fs s.2.2.1 t)) (j + 1) d) = false ∧ f_Link_isNameLeft_65 F c k55 (f + 1) 147 (nI t) (nI j) (cH sk L τ) = k55 147 (nI (t + 1)) (cH sk L τ)) := fun e1 e2 => by
      rw [e1, e2, Bool.false_or]
      exact ih (j + 1) f (by omega) (by omega)
    by_cases ch : hsN (tB fs s.2.2.1 t) j = true
    · have y2 := y2 ch
      unfold syN at y1
      rw [if_pos ch] at y1
      obtain ⟨kw, hpl⟩ := k_wn (F := F) (c := c) h y2
      have ecl : clY xs (tB fs s.2.2.1 t) j = wnN xs (yT (tB fs s.2.2.1 t) j) := by unfold clY; rw [ch, Bool.true_and]
      generalize yT (tB fs s.2.2.1 t) j = w at *
      generalize plc w (xs.map Prod.fst) = P at *
      have eq : f_Link_isNameLeft_65 F c k55 (f + 1) 147 (nI t) (nI j) (cH sk L τ) = if bI (wnN xs w) = 0 then f_Link_isNameLeft_96 F c k55 (f_Link_isNameLeft_65 F c k55 f) 147 (nI t) (nI j) (cH sk L τ) else f_Link_isNameLeft_89 F c 147 (some (pN τ 149 P)) (cH sk L τ) := by
        conv => lhs; unfold f_Link_isNameLeft_65
        rw [if_neg (nI_ge hj64 (by omega)), c_o o147, bs, k_nameOf hS hR ht hj64, y1, xb_mk]
        show (xb (f_Link_isWanted F c (some (pN τ 149 P)) (cH sk L τ)) _) = _
        rw [kw, xb_mk]
      cases e : wnN xs w with
      | true =>
        rw [ecl, e, Bool.true_or]
        refine Or.inl ⟨rfl, _, ?_, P, hpl, rfl⟩
        rw [eq, e, if_neg (show ¬ bI true = 0 by decide)]
        unfold f_Link_isNameLeft_89
        rw [C3w13 o147, bs]
      | false =>
        refine next (by rw [ecl, e]) ?_
        rw [eq, e, if_pos (show bI false = 0 from rfl)]
        unfold f_Link_isNameLeft_96
        rw [nI_add]
    · refine next (by unfold clY; rw [Bool.eq_false_iff.mpr ch, Bool.false_and]) ?_
      unfold syN at y1
      rw [if_neg ch] at y1
      conv => lhs; unfold f_Link_isNameLeft_65
      rw [if_neg (nI_ge hj64 (by omega)), c_o o147, bs, k_nameOf hS hR ht hj64, y1, xb_mk]
      show f_Link_isNameLeft_96 F c k55 (f_Link_isNameLeft_65 F c k55 f) 147 (nI t) (nI j) (cH sk L τ) = _
      unfold f_Link_isNameLeft_96
      rw [nI_add]
theorem k_nl_55 (hF : 65536 < F) (h : TKo sk L own τ fs s xs) : ∀ (d t f : Nat), t + d = s.2.2.1.length → d < f → (ex1 (clT (tB fs s.2.2.1) xs) t d = true ∧ ∃ τ', f_Link_isNameLeft_55 F c f 147 (nI t) (cH sk L τ) = some (nI 1, cH sk L τ') ∧ BLn τ τ' xs) ∨ (ex1 (clT (tB fs s.2.2.1) xs) t d = false ∧ f_Link_isNameLeft_55 F c f 147 (nI t) (cH sk L τ) = f_Link_isNameLeft_108 F c 147 (cH sk L τ)) := by
  have hS := h.1
  have o147 := G147 hS
  have hT := BK_T (s := s) h.2.2.2.2.1.1
  have h14 : fI τ 147 14 = nI s.2.2.1.length := h.2.2.2.1.2.2.1.1
  intro d
  induction d with
  | zero =>
    intro t f ht hf
    obtain ⟨f, rfl⟩ : ∃ x, f = x + 1 := ⟨f - 1, by omega⟩
    refine Or.inr ⟨rfl, ?_⟩
    unfold f_Link_isNameLeft_55
    rw [C3g14 o147, bs, h14, if_pos (nI_le (by omega) (by omega))]
  | succ d ih =>
    intro t f ht hf
    obtain ⟨f, rfl⟩ : ∃ x, f = x + 1 := ⟨f - 1, by omega⟩
    have htl : t < s.2.2.1.length := by omega
    have eq : f_Link_isNameLeft_55 F c (f + 1) 147 (nI t) (cH sk L τ) = f_Link_isNameLeft_65 F c (f_Link_isNameLeft_55 F c f) F 147 (nI t) (nI 0) (cH sk L τ) := by
      conv => lhs; unfold f_Link_isNameLeft_55
      rw [C3g14 o147, bs, h14, if_neg (nI_ge htl (by omega))]
    rw [eq, ex1_s]
    rcases k_nl_65 (F := F) (c := c) (k55 := f_Link_isNameLeft_55 F c f) hF h (List.getElem?_eq_getElem htl) 64 0 F rfl (by omega) with ⟨e1, τ', e2, e3⟩ | ⟨e1, e2⟩
    · have e1 : clT (tB fs s.2.2.1) xs t = true := e1
      exact Or.inl ⟨by rw [e1, Bool.true_or], τ', e2, e3⟩
    · have e1 : clT (tB fs s.2.2.1) xs t = false := e1
      rw [e1, Bool.false_or, e2]
      exact ih (t + 1) f (by omega) (by omega)
/-- _start -/
theorem k_nl_108 (hF : 65536 < F) (h : TKo sk L own τ fs s xs) (hst : isNm τ 1696 wST) : f_Link_isNameLeft_108 F c 147 (cH sk L τ) = some (bI (dfI wST xs).isNone, cH sk L τ) := by
  have hS := h.1
  have hR := h.2.1
  have o147 := G147 hS
  have hlx : (xs.map Prod.fst).length ≤ 4128 := h.2.2.2.1.2.1.1.2.2.2.1
  have kf := k_find1 (F := F) (c := c) h (by omega) (G1696 hS) hst (show okN wST from ⟨by decide, by decide⟩)
  unfold f_Link_isNameLeft_108 f_Link_isNameLeft_131 f_Link_isNameLeft_136
  rw [C3r3 o147 (GR_r (v := 148) hR (by decide)), bs, C3r12 o147 (GR_r (v := 1696) hR (by decide)), bs, c_o (G148 hS), bs, kf, xb_mk]
  unfold dfI
  cases ei : idx wST 0 (xs.map Prod.fst) with
  | none => exact xz_1 _
  | some P =>
    show ((xgI (cH sk L τ) 5 4 (pN τ 149 P)).bind _) = some (bI (if stN xs P = 0 then none else some P : Option Nat).isNone, _)
    have hpl := idx_lt ei
    rw [List.length_map] at hpl
    have hx := List.getElem?_eq_getElem (show P < xs.length by omega)
    generalize xs[P] = x at hx
    have hC := h.2.2.2.1.2.1
    obtain ⟨z1, z2, z3, z4⟩ := CLn_at hC hx
    have hcr := (hC.2.1 P _ hx).1
    have hx4 := h.2.2.2.2.2.1 P x hx
    rw [C5g4 z3, bs, hcr.1, stN_at hx]
    by_cases c0 : x.2.1 = 0
    · rw [if_pos c0, c0, if_neg (show ¬ (0 = 4) by decide), if_pos (show nI 0 = 0 from rfl)]
      exact xz_1 _
    · rw [if_neg c0, if_neg (show ¬ nI (if x.2.1 = 4 then 3 else x.2.1) = 0 from fun q => by
        have := (nI_eq (b := 0) (by split <;> omega) (by decide)).mp q
        split at this <;> omega)]
      exact xz_0 _
theorem k_isNameLeft (hF : 65536 < F) (h : TKo sk L own τ fs s xs) (hc : CW sk L τ ws) (hws : ∀ w, w ∈ ws → w ∈ xs.map Prod.fst) (hst : isNm τ 1696 wST) : ∃ τ', f_Link_isNameLeft F c 147 (cH sk L τ) = some (bI (clA ws (tB fs s.2.2.1) s.2.2.1.length xs), cH sk L τ') ∧ (τ' = τ ∨ (clA ws (tB fs s.2.2.1) s.2.2.1.length xs = true ∧ BLn τ τ' xs)) := by
  have hl16 : ws.length ≤ 16 := hc.2.2.2.1
  have hT := BK_T (s := s) h.2.2.2.2.1.1
  unfold f_Link_isNameLeft clA
  rcases k_nl_2 (F := F) (c := c) hF h hc hws ws.length 0 F (by omega) (by omega) with ⟨e1, τ', e2, e3⟩ | ⟨e1, e2⟩
  · exact ⟨τ', by rw [e1, Bool.true_or]; exact e2, Or.inr ⟨by rw [e1, Bool.true_or], e3⟩⟩
  · rw [e1, e2, Bool.false_or]
    unfold f_Link_isNameLeft_53
    rcases k_nl_55 (F := F) (c := c) hF h s.2.2.1.length 0 F (by omega) (by omega) with ⟨e1, τ', e2, e3⟩ | ⟨e1, e2⟩
    · exact ⟨τ', by rw [e1, Bool.true_or]; exact e2, Or.inr ⟨by rw [e1, Bool.true_or], e3⟩⟩
    · rw [e1, e2, Bool.false_or, k_nl_108 hF h hst]
      exact ⟨τ, rfl, Or.inl rfl⟩
end CLF
end
section
/-! what stays: names and parts behind the taking -/
def crem (tb : Nat → Nat → Nat) (τ : px_TT) (p : Nat) (r : px_NR) : Prop := fI τ p 4 = nI (if r.1 = 4 then 3 else r.1) ∧ (∃ a b, fI τ p 10 = bI a ∧ fI τ p 11 = bI b ∧ (a || b) = r.2.1) ∧ cdf tb τ p r
def CLm (sk : Nat → Nat × Nat × Nat) (L : Nat) (τ : px_TT) (tb : Nat → Nat → Nat) (xs : px_NL) (od : List Nat) (rn : Nat → Bool) : Prop := isNs sk L τ 148 149 4128 (xs.map Prod.fst) (pN τ 149) ∧ (∀ (i : Nat) (x : List Nat × px_NR), xs[i]? = some x → crem tb τ (pN τ 149 i) x.2 ∧ (x.2.1 = 2 → fI τ (pN τ 149 i) 13 = bI (rn i))) ∧ (fI τ 147 15 = nI od.length ∧ ∀ (i d : Nat), od[i]? = some d → d < xs.length ∧ eN τ 1693 i = some (pN τ 149 d))
def isPe (τ : px_TT) (p t s : Nat) (b : Nat → Nat) (base u : Nat) (dr st : Bool) : Prop := (fI τ p 0 = nI t ∧ fI τ p 1 = nI (u / 8) ∧ fI τ p 2 = nI (u % 8)) ∧ fI τ p 3 = nI s ∧ fI τ p 4 = (if kpB b s = true then nI (oG b s) else Int32.ofInt (-1)) ∧ fI τ p 8 = nI (if dr = true then 2 else if kpB b s = true then 1 else 0) ∧ fI τ p 9 = bI st ∧ (kpB b s = true → fI τ p 5 = nI (oZ b s) ∧ fI τ p 6 = nI (if oA b s < 1 then 1 else oA b s) ∧ fI τ p 7 = nI (base + oP b s)) ∧ fI τ p 10 = bI ((kpB b s && oStr b s) && !dr)
def CKe (sk : Nat → Nat × Nat × Nat) (L : Nat) (own : Nat → Nat × Nat) (τ : px_TT) (fs : px_FS) (s : px_TK) (xs : px_NL) (ST rn : Nat → Bool) : Prop := NP sk L τ own ∧ CLm sk L τ (tB fs s.2.2.1) xs s.1.2.2.1 rn ∧ fI τ 147 14 = nI s.2.2.1.length ∧ (∀ t q, s.2.2.1[t]? = some q → (∀ i, i < 24 → isPe τ (152 + (24 * t + i)) t i (tB fs s.2.2.1 t) (bsO fs q) q (s.2.1.1 (24 * t + i)) (ST (24 * t + i))) ∧ RSy τ t (tB fs s.2.2.1 t) xs 64 ∧ eN τ 1689 t = some (10 + 2 * q))
/-- after the taking, names and parts as they stay -/
def TKe (sk : Nat → Nat × Nat × Nat) (L : Nat) (own : Nat → Nat × Nat) (τ : px_TT) (fs : px_FS) (s : px_TK) (xs : px_NL) (ST rn : Nat → Bool) : Prop := GS sk L ∧ GR τ ∧ CF sk L τ fs ∧ CKe sk L own τ fs s xs ST rn ∧ WK fs s ∧ AL (fun x => x.2.1 ≤ 4) xs ∧ xs.map Prod.fst = s.1.2.1.map Prod.fst
/-- no name has a slot -/
def Z15 (τ : px_TT) (xs : px_NL) : Prop := ∀ i, i < xs.length → fI τ (pN τ 149 i) 15 = nI 0 ∧ fI τ (pN τ 149 i) 16 = nI 0
section CKP
variable {sk sk' : Nat → Nat × Nat × Nat} {L L' : Nat} {τ τ' : px_TT} {own : Nat → Nat × Nat} {fs : px_FS} {s : px_TK} {xs : px_NL} {ST ST' rn rn' : Nat → Bool} {tb : Nat → Nat → Nat} {od : List Nat}
theorem TKe_of (h : TKo sk L own τ fs s xs) : TKe sk L own τ fs s xs (fun x => kpB (tB fs s.2.2.1 (x / 24)) (x % 24) && !s.2.1.1 x) (fun _ => true) := by
  obtain ⟨h1, h2, h3, ⟨k1, k2, ⟨k3, k4⟩, k5, k6, k7, k8⟩, h5, h6, h7, h8⟩ := h
  refine ⟨h1, h2, h3, ⟨k1, ⟨k2.1, fun i x hx => ?_, k2.2.2.1⟩, k3, fun t q hq => ?_⟩, h5, h6, h7⟩
  · obtain ⟨⟨r1, r2, r3, r4⟩, r5⟩ := k2.2.1 i x hx
    exact ⟨⟨r1, r2, r3⟩, fun e => r4.1 (Or.inr (Or.inl e))⟩
  · obtain ⟨r1, r2, r3⟩ := k5 t q hq
    refine ⟨fun i hi => ?_, r2, r3⟩
    have := r1 i hi
    show isPe τ _ t i _ _ _ _ (kpB (tB fs s.2.2.1 ((24 * t + i) / 24)) ((24 * t + i) % 24) && !s.2.1.1 (24 * t + i))
    rw [show (24 * t + i) / 24 = t by omega, show (24 * t + i) % 24 = i by omega]
    exact this
theorem Z15_of {sg : List (List Nat)} (h : CLn sk L τ tb xs od sg) : Z15 τ xs := fun i hi => (h.2.1 i _ (List.getElem?_eq_getElem hi)).1.2.2.2.2
theorem CLm_at {i : Nat} {x : List Nat × px_NR} (h : CLm sk L τ tb xs od rn) (hx : xs[i]? = some x) : okN x.1 ∧ eN τ 149 i = some (pN τ 149 i) ∧ ob sk L 5 (pN τ 149 i) ∧ isNm τ (pN τ 149 i) x.1 := h.1.2.2.2.2.2.2 i x.1 (by rw [List.getElem?_map, hx]; rfl)
theorem CLm_fx (h : CLm sk L τ tb xs od rn) (e : EX sk L sk' L') (hI : ∀ i, i < xs.length → ∀ k, (k = 3 ∨ k = 4 ∨ k = 5 ∨ k = 10 ∨ k = 11) → fI τ' (pN τ 149 i) k = fI τ (pN τ 149 i) k) (h13 : ∀ (i : Nat) (x : List Nat × px_NR), xs[i]? = some x → x.2.1 = 2 → fI τ' (pN τ 149 i) 13 = bI (rn' i)) (hJ : ∀ i, i < xs.length → ∀ k, (k ≤ 2 ∨ k = 7 ∨ k = 8) → fJ τ' (pN τ 149 i) k = fJ τ (pN τ 149 i) k) (hN : ∀ i, i < xs.length → fN τ' (pN τ 149 i) 6 = fN τ (pN τ 149 i) 6) (h148 : fN τ' 148 0 = fN τ 148 0 ∧ fI τ' 148 2 = fI τ 148 2) (h15 : fI τ' 147 15 = fI τ 147 15) (e1 : eN τ' 149 = eN τ 149) (e2 : eN τ' 1693 = eN τ 1693) : CLm sk' L' τ' tb xs od rn' := by
  obtain ⟨⟨s1, s2, s3, s4, s5, s6, s7⟩, h2, h3⟩ := h
  have eP : ∀ j, pN τ' 149 j = pN τ 149 j := fun j => by unfold pN; rw [e1]
  refine ⟨⟨ob_ex s1 e, h148.1.trans s2, ar_ex s3 e, s4, s5, h148.2.trans s6, fun j v hv => ?_⟩, fun i x hx => ?_, h15.trans h3.1, fun i d hd => ?_⟩
  · have hj : j < xs.length := by have := (List.getElem?_eq_some_iff.mp hv).1; rw [List.length_map] at this; exact this
    obtain ⟨y1, y2, y3, y4⟩ := s7 j v hv
    rw [eP, e1]
    exact ⟨y1, y2, ob_ex y3 e, (hJ j hj 0 (by omega)).trans y4.1, (hJ j hj 1 (by omega)).trans y4.2.1, (hJ j hj 2 (by omega)).trans y4.2.2.1, (hI j hj 3 (by omega)).trans y4.2.2.2⟩
  · have hj := (List.getElem?_eq_some_iff.mp hx).1
    obtain ⟨r1, r2⟩ := h2 i x hx
    rw [eP]
    refine ⟨?_, h13 i x hx⟩
    unfold crem cdf
    rw [hI i hj 4 (by omega), hI i hj 5 (by omega), hI i hj 10 (by omega), hI i hj 11 (by omega), hJ i hj 7 (by omega), hJ i hj 8 (by omega), hN i hj]
    exact r1
  · rw [e2, eP]; exact h3.2 i d hd
theorem isPe_fx {p t i base u : Nat} {b : Nat → Nat} {dr st st' : Bool} (h : isPe τ p t i b base u dr st) (hI : ∀ k, k ≤ 10 → k ≠ 9 → fI τ' p k = fI τ p k) (h9 : fI τ' p 9 = bI st') : isPe τ' p t i b base u dr st' := by
  unfold isPe at h ⊢
  rw [hI 0 (by decide) (by decide), hI 1 (by decide) (by decide), hI 2 (by decide) (by decide), hI 3 (by decide) (by decide), hI 4 (by decide) (by decide), hI 8 (by decide) (by decide), hI 5 (by decide) (by decide), hI 6 (by decide) (by decide), hI 7 (by decide) (by decide), hI 10 (by decide) (by decide)]
  exact ⟨h.1, h.2.1, h.2.2.1, h.2.2.2.1, h9, h.2.2.2.2.2⟩
end CKP
end
section
/-! what is reached, in the class -/
abbrev px_CQ : Type := (Nat → Bool) × (Nat → Bool) × List Nat
def cs1 (x : Option Nat) (s : px_CQ) : px_CQ := match x with
  | none => s
  | some y => if s.1 y = true then s else (bup s.1 y, s.2.1, s.2.2 ++ [y])
def cn1 (x : Option Nat) (s : px_CQ) : px_CQ := match x with
  | none => s
  | some n => (s.1, bup s.2.1 n, s.2.2)
def frKr (τ τ' : px_TT) : Prop := (∀ a k, a < 1815 → (a < 152 ∨ 1688 ≤ a ∨ k ≠ 9) → (a ≠ 147 ∨ k ≠ 16) → fI τ' a k = fI τ a k) ∧ (∀ a k, 1815 ≤ a → k ≠ 13 → fI τ' a k = fI τ a k) ∧ (∀ a k, fJ τ' a k = fJ τ a k) ∧ (∀ a k, fN τ' a k = fN τ a k) ∧ (∀ a, eI τ' a = eI τ a) ∧ (∀ a, eJ τ' a = eJ τ a) ∧ ∀ a, a ≠ 1694 → eN τ' a = eN τ a
theorem frKr_refl {τ : px_TT} : frKr τ τ := ⟨fun _ _ _ _ _ => rfl, fun _ _ _ _ => rfl, fun _ _ => rfl, fun _ _ => rfl, fun _ => rfl, fun _ => rfl, fun _ _ => rfl⟩
theorem frKr_trans {τ τ1 τ2 : px_TT} (h : frKr τ τ1) (g : frKr τ1 τ2) : frKr τ τ2 := ⟨fun a k x y z => (g.1 a k x y z).trans (h.1 a k x y z), fun a k x y => (g.2.1 a k x y).trans (h.2.1 a k x y), fun a k => (g.2.2.1 a k).trans (h.2.2.1 a k), fun a k => (g.2.2.2.1 a k).trans (h.2.2.2.1 a k), fun a => (g.2.2.2.2.1 a).trans (h.2.2.2.2.1 a), fun a => (g.2.2.2.2.2.1 a).trans (h.2.2.2.2.2.1 a), fun a x => (g.2.2.2.2.2.2 a x).trans (h.2.2.2.2.2.2 a x)⟩
section CRC
variable {F : Nat} {c : px_CT} {sk : Nat → Nat × Nat × Nat} {L : Nat} {τ τ' : px_TT} {own : Nat → Nat × Nat} {fs : px_FS} {s : px_TK} {xs : px_NL} {ST ST' rn rn' : Nat → Bool} {gs : List (List Nat × Int64)} {ws : List (List Nat)} {u : px_CQ}
theorem GR_Kr (h : GR τ) (f : frKr τ τ') : GR τ' := GR_mv h (fun a k _ => f.2.2.2.1 a k) (fun a k ha hk => f.1 a k (by omega) (by omega) (Or.inl (by omega))) (f.2.2.2.2.2.2 9 (by decide)) (f.2.2.2.2.2.2 151 (by decide))
theorem SF_Kr (f : frKr τ τ') : SF τ τ' := ⟨fun a k h hk => f.1 a k (by omega) (by omega) (Or.inl (by omega)), fun a k h => f.2.2.2.1 a k, fun a _ => f.2.2.2.2.1 a⟩
theorem CN_Kr {N' A : Nat} (h : CN sk L τ N' A ws) (hn : NP sk L τ own) (f : frKr τ τ') (hN : N' = 140 ∨ N' = 143) (hA : A = 141 ∨ A = 144) : CN sk L τ' N' A ws := by
  obtain ⟨s1, s2, s3, s4, s5, s6, s7⟩ := h
  have eA : eN τ' A = eN τ A := f.2.2.2.2.2.2 A (by omega)
  refine ⟨s1, (f.2.2.2.1 N' 0).trans s2, s3, s4, s5, (f.1 N' 2 (by omega) (by omega) (Or.inl (by omega))).trans s6, fun i w hw => ?_⟩
  obtain ⟨z1, z2, z3, z4⟩ := s7 i w hw
  have hz := (hn A i _ (by omega) z2).1
  rw [eA]
  exact ⟨z1, z2, z3, (f.2.2.1 _ 0).trans z4.1, (f.2.2.1 _ 1).trans z4.2.1, (f.2.2.1 _ 2).trans z4.2.2.1, (f.2.1 _ 3 hz (by decide)).trans z4.2.2.2⟩
theorem CG_Kr (h : CG sk L τ gs) (hn : NP sk L τ own) (f : frKr τ τ') : CG sk L τ' gs := by
  refine ⟨CN_Kr h.1 hn f (Or.inl rfl) (Or.inl rfl), fun i x hx => ?_⟩
  rw [f.2.2.2.2.2.2 141 (by decide), f.2.2.1]
  exact h.2 i x hx
theorem CW_Kr (h : CW sk L τ ws) (hn : NP sk L τ own) (f : frKr τ τ') : CW sk L τ' ws := CN_Kr h hn f (Or.inr rfl) (Or.inr rfl)
theorem TKe_Kr (h : TKe sk L own τ fs s xs ST rn) (f : frKr τ τ') (h9 : ∀ x, x < 24 * s.2.2.1.length → fI τ' (152 + x) 9 = bI (ST' x)) (h13 : ∀ (i : Nat) (x : List Nat × px_NR), xs[i]? = some x → x.2.1 = 2 → fI τ' (pN τ 149 i) 13 = bI (rn' i)) : TKe sk L own τ' fs s xs ST' rn' := by
  obtain ⟨h1, h2, h3, ⟨k1, k2, k3, k4⟩, h5, h6, h7⟩ := h
  have hT := BK_T (s := s) h5.1
  have hge : ∀ i, i < xs.length → 1815 ≤ pN τ 149 i := fun i hi => (k1 149 i _ (Or.inr (Or.inr rfl)) (CLm_at k2 (List.getElem?_eq_getElem hi)).2.1).1
  refine ⟨h1, GR_Kr h2 f, CF_mv h3 EX_refl (SF_Kr f), ⟨NP_fx k1 (fun A hA => f.2.2.2.2.2.2 A (by omega)), CLm_fx k2 EX_refl (fun i hi k hk => f.2.1 _ k (hge i hi) (by omega)) h13 (fun i hi k _ => f.2.2.1 _ k) (fun i hi => f.2.2.2.1 _ 6) ⟨f.2.2.2.1 148 0, f.1 148 2 (by decide) (by decide) (Or.inl (by decide))⟩ (f.1 147 15 (by decide) (by decide) (Or.inr (by decide))) (f.2.2.2.2.2.2 149 (by decide)) (f.2.2.2.2.2.2 1693 (by decide)), (f.1 147 14 (by decide) (by decide) (Or.inr (by decide))).trans k3, fun t q hq => ?_⟩, h5, h6, h7⟩
  have ht := (List.getElem?_eq_some_iff.mp hq).1
  obtain ⟨r1, r2, r3⟩ := k4 t q hq
  refine ⟨fun i hi => isPe_fx (r1 i hi) (fun k _ k9 => f.1 _ k (by omega) (by omega) (Or.inl (by omega))) (h9 _ (by omega)), RSy_fx r2 (f.2.2.2.2.2.2 149 (by decide)) (fun k _ => by rw [f.2.2.2.2.2.2 1692 (by decide)]), by rw [f.2.2.2.2.2.2 1689 (by decide)]; exact r3⟩
/-- parts reached, names reached, the queue -/
def RQs (sk : Nat → Nat × Nat × Nat) (L : Nat) (own : Nat → Nat × Nat) (τ : px_TT) (fs : px_FS) (s : px_TK) (xs : px_NL) (u : px_CQ) : Prop := TKe sk L own τ fs s xs u.1 u.2.1 ∧ fI τ 147 16 = nI u.2.2.length ∧ (∀ (i x : Nat), u.2.2[i]? = some x → eN τ 1694 i = some (152 + x)) ∧ u.2.2.Nodup ∧ (∀ x, u.1 x = true ↔ x ∈ u.2.2) ∧ ∀ x, x ∈ u.2.2 → x < 24 * s.2.2.1.length
theorem TKe_part (h : TKe sk L own τ fs s xs ST rn) {x : Nat} (hx : x < 24 * s.2.2.1.length) : ob sk L 8 (152 + x) ∧ fI τ (152 + x) 9 = bI (ST x) ∧ fI τ (152 + x) 0 = nI (x / 24) ∧ fI τ (152 + x) 3 = nI (x % 24) := by
  have hT := BK_T (s := s) h.2.2.2.2.1.1
  have ht : x / 24 < s.2.2.1.length := by omega
  obtain ⟨r1, _, _⟩ := h.2.2.2.1.2.2.2 (x / 24) _ (List.getElem?_eq_getElem ht)
  have := r1 (x % 24) (by omega)
  rw [show 24 * (x / 24) + x % 24 = x by omega] at this
  exact ⟨G_part h.1 (by omega), this.2.2.2.2.1, this.1.1, this.2.1⟩
theorem k_reachPart {y : Option Nat} (h : RQs sk L own τ fs s xs u) (hy : ∀ x, y = some x → x < 24 * s.2.2.1.length) : ∃ τ', f_Link_reachPart F c 147 (y.map (fun x => 152 + x)) (cH sk L τ) = some ((), cH sk L τ') ∧ RQs sk L own τ' fs s xs (cs1 y u) ∧ frKr τ τ' := by
  obtain ⟨h1, h2, h3, h4, h5, h6⟩ := id h
  unfold f_Link_reachPart f_Link_reachPart_48
  cases y with
  | none => exact ⟨τ, rfl, h, frKr_refl⟩
  | some x =>
    have hx := hy x rfl
    obtain ⟨p1, p2, p3, p4⟩ := TKe_part h1 hx
    have hT := BK_T (s := s) h1.2.2.2.2.1.1
    have hS := h1.1
    have o147 := G147 hS
    show ∃ τ', ((xgI (cH sk L τ) 8 9 (152 + x)).bind _) = _ ∧ RQs sk L own τ' fs s xs (if u.1 x = true then u else (bup u.1 x, u.2.1, u.2.2 ++ [x])) ∧ _
    rw [C8g9 p1, bs, p2]
    cases e : u.1 x with
    | true =>
      rw [if_neg (show ¬ bI true = 0 by decide), if_pos rfl]
      exact ⟨τ, rfl, h, frKr_refl⟩
    | false =>
      have hnx : x ∉ u.2.2 := fun q => by have := (h5 x).mpr q; rw [e] at this; cases this
      have hnd : (u.2.2 ++ [x]).Nodup := List.nodup_append.mpr ⟨h4, List.Pairwise.cons (fun _ h => nomatch h) List.Pairwise.nil, fun a ha b' hb' e => by
        rw [List.mem_singleton] at hb'
        rw [e, hb'] at ha
        exact hnx ha⟩
      have hln : (u.2.2 ++ [x]).length ≤ 1536 := nodup_le 0 1536 _ hnd (fun z hz => by
        rcases List.mem_append.mp hz with q | q
        · have := h6 z q
          omega
        · rw [List.mem_singleton] at q
          omega)
      rw [List.length_append, List.length_singleton] at hln
      rw [if_pos (show bI false = 0 from rfl), if_neg (show ¬ false = true by decide), C3g16 o147, bs, h2, C3r10 o147 (GR_r (v := 1694) h1.2.1 (by decide)), bs, c_l (G1694 hS) (by decide), bs, if_neg (nI_ge (by omega) (by omega)), show xpZ _ 8 9 (152 + x) (nI 1) = _ from C8z9 p1 true, bs]
      obtain ⟨τ1, hτ1⟩ : ∃ z, z = tI τ (152 + x) 9 (bI true) := ⟨_, rfl⟩
      have e16 : fI τ1 147 16 = nI u.2.2.length := by rw [hτ1]; exact (tI_ne (Or.inl (by omega))).trans h2
      have r10 : fN τ1 147 10 = some 1694 := by rw [hτ1]; show fN τ 147 10 = some 1694; exact GR_r h1.2.1 (by decide)
      rw [← hτ1, C3r10 o147 r10, bs, C3g16 o147, bs, e16, c_sO (G1694 hS) (by decide) (by decide) (show u.2.2.length < 1536 by omega) p1, bs]
      obtain ⟨τ2, hτ2⟩ : ∃ z, z = vN τ1 1694 (va_up (eN τ1 1694) u.2.2.length (some (152 + x))) := ⟨_, rfl⟩
      rw [← hτ2, C3g16 o147, bs, show fI τ2 147 16 = nI u.2.2.length by rw [hτ2]; exact e16, nI_add, C3p16 o147, bs]
      obtain ⟨τ3, hτ3⟩ : ∃ z, z = tI τ2 147 16 (nI (u.2.2.length + 1)) := ⟨_, rfl⟩
      rw [← hτ3]
      have eI3 : ∀ a k, (a ≠ 152 + x ∨ k ≠ 9) → (a ≠ 147 ∨ k ≠ 16) → fI τ3 a k = fI τ a k := fun a k q1 q2 => by
        rw [hτ3, tI_ne q2, hτ2]
        show fI τ1 a k = _
        rw [hτ1, tI_ne q1]
      have eN3 : ∀ a, a ≠ 1694 → eN τ3 a = eN τ a := fun a ha => by
        rw [hτ3, hτ2]
        show u1 τ1.2.2.2.2.2 1694 _ a = _
        rw [u1_ne ha, hτ1]; rfl
      have eN31 : eN τ3 1694 = va_up (eN τ 1694) u.2.2.length (some (152 + x)) := by
        rw [hτ3, hτ2, hτ1]
        exact (u1_eq : u1 τ.2.2.2.2.2 1694 _ 1694 = _)
      have f3 : frKr τ τ3 := ⟨fun a k _ q1 q2 => eI3 a k (by omega) q2, fun a k q1 _ => eI3 a k (by omega) (by omega), fun a k => by rw [hτ3, hτ2, hτ1]; rfl, fun a k => by rw [hτ3, hτ2, hτ1]; rfl, fun a => by rw [hτ3, hτ2, hτ1]; rfl, fun a => by rw [hτ3, hτ2, hτ1]; rfl, eN3⟩
      refine ⟨τ3, rfl, ⟨TKe_Kr h1 f3 (fun z hz => ?_) (fun i y hy e2 => ?_), ?_, fun i z hz => ?_, hnd, fun z => ?_, fun z hz => ?_⟩, f3⟩
      · show _ = bI (bup u.1 x z)
        unfold bup
        by_cases cz : z = x
        · rw [if_pos cz, cz, hτ3, tI_ne (Or.inl (by omega)), hτ2]
          show fI τ1 (152 + x) 9 = _
          rw [hτ1, tI_at]
        · rw [if_neg cz, eI3 _ _ (Or.inl (by omega)) (Or.inl (by omega))]
          exact (TKe_part h1 hz).2.1
      · have hi := (List.getElem?_eq_some_iff.mp hy).1
        have hge := (h1.2.2.2.1.1 149 i _ (Or.inr (Or.inr rfl)) (CLm_at h1.2.2.2.1.2.1 hy).2.1).1
        rw [eI3 _ _ (Or.inl (by omega)) (Or.inl (by omega))]
        exact (h1.2.2.2.1.2.1.2.1 i y hy).2 e2
      · show _ = nI (u.2.2 ++ [x]).length
        rw [hτ3, tI_at, List.length_append, List.length_singleton]
      · have hz : (u.2.2 ++ [x])[i]? = some z := hz
        rw [eN31]
        by_cases ci : i < u.2.2.length
        · rw [List.getElem?_append_left ci] at hz
          rw [va_up_n (by omega)]
          exact h3 i z hz
        · have ei : i = u.2.2.length := by
            have := (List.getElem?_eq_some_iff.mp hz).1
            rw [List.length_append, List.length_singleton] at this
            omega
          rw [ei, List.getElem?_append_right (Nat.le_refl _), Nat.sub_self] at hz
          have hz : x = z := Option.some.inj hz
          rw [ei, va_up_a, hz]
      · show bup u.1 x z = true ↔ z ∈ u.2.2 ++ [x]
        unfold bup
        rw [List.mem_append, List.mem_singleton]
        by_cases cz : z = x
        · rw [if_pos cz]; exact ⟨fun _ => Or.inr cz, fun _ => rfl⟩
        · rw [if_neg cz]
          exact ⟨fun q => Or.inl ((h5 z).mp q), fun q => q.elim (fun q => (h5 z).mpr q) (fun q => absurd q cz)⟩
      · have hz : z ∈ u.2.2 ++ [x] := hz
        rcases List.mem_append.mp hz with q | q
        · exact h6 z q
        · rw [List.mem_singleton] at q
          rw [q]; exact hx
end CRC
end
section
/-! reachName, partOf, reachSymbol of the class -/
section CRD
variable {F : Nat} {c : px_CT} {sk : Nat → Nat × Nat × Nat} {L : Nat} {τ τ' : px_TT} {own : Nat → Nat × Nat} {fs : px_FS} {s : px_TK} {xs : px_NL} {ST rn : Nat → Bool} {u : px_CQ} {t : Nat}
/-- the objects taken, as the class has them -/
theorem TKe_ob (h : TKe sk L own τ fs s xs ST rn) (ht : t < s.2.2.1.length) : ∃ q, s.2.2.1[t]? = some q ∧ q < 64 ∧ cD sk L τ (10 + 2 * q) (11 + 2 * q) (bsO fs q) (tNf fs s.2.2.1 t) (eI τ 8) ∧ cb (eI τ 8) (bsO fs q) (tNf fs s.2.2.1 t) = tB fs s.2.2.1 t ∧ eObj (tB fs s.2.2.1 t) (tNf fs s.2.2.1 t) = 0 ∧ (∀ i, i < 24 → isPe τ (152 + (24 * t + i)) t i (tB fs s.2.2.1 t) (bsO fs q) q (s.2.1.1 (24 * t + i)) (ST (24 * t + i))) ∧ RSy τ t (tB fs s.2.2.1 t) xs 64 ∧ eN τ 1689 t = some (10 + 2 * q) := by
  obtain ⟨q, q1, q2, q3⟩ := obT_at h.2.2.2.2.1.1 ht
  obtain ⟨_, _, hcb, _, _, hD⟩ := CF_ob h.2.2.1 q3
  have hD := hD rfl
  have he := hD.2.2
  rw [hcb] at he
  obtain ⟨r1, r2, r3⟩ := h.2.2.2.1.2.2.2 t q q1
  exact ⟨q, q1, q2, hD, hcb, he, r1, r2, r3⟩
/-- where the definition of a name is -/
theorem home_of {tb : Nat → Nat → Nat} {T p : Nat} {dr : Nat → Bool} {x : List Nat × px_NR} (hc : crem tb τ p x.2) (hb : byP T tb dr x) (h4 : x.2.1 ≤ 4) (hy : ∀ t, t < T → ∀ k, 1 ≤ k → k < oM (tb t) → yOK (tb t) k = true) (hS : ∀ t, t < T → oS (tb t) ≤ 24) : (fI τ p 5 = nI 1 ∧ ∃ y, secN tb dr x.2 = some y ∧ fN τ p 6 = some (152 + y) ∧ y < 24 * T) ∨ (fI τ p 5 ≠ nI 1 ∧ secN tb dr x.2 = none) := by
  obtain ⟨c1, c2, d1, d2, d3, d4, d5⟩ := hc
  unfold byP at hb
  unfold secN
  cases e : x.2.2.2.2.1 with
  | none =>
    rw [e] at hb
    refine Or.inr ⟨?_, rfl⟩
    have hb : x.2.1 = 0 ∨ x.2.1 = 3 ∨ x.2.1 = 4 := hb
    rcases hb with z | z | z
    · rw [d1 z]; decide
    · rw [(d4 (Or.inr z) e).1]; decide
    · rw [(d2 z).1]; decide
  | some q =>
    obtain ⟨t, k⟩ := q
    rw [e] at hb
    have hb : t < T ∧ (1 ≤ k ∧ k < oM (tb t)) ∧ yB (tb t) k ≠ 0 ∧ sOf dr t (tb t) k = x.2.1 ∧ x.2.1 ≠ 0 ∧ yT (tb t) k = x.1 := hb
    obtain ⟨b1, ⟨b2, b3⟩, b4, b5, b6, b7⟩ := hb
    show _ ∨ (_ ∧ (if x.2.1 = 1 ∨ x.2.1 = 3 then secT tb dr t (wNo dr t (tb t) k) else none) = none)
    have hok := hy t b1 k b2 b3
    have hw : wNo dr t (tb t) k ≠ 0 := fun z => b6 (by rw [← b5]; unfold sOf; rw [if_pos z])
    have hwe : wNo dr t (tb t) k = yW (tb t) k ∧ ¬ (0 < yW (tb t) k ∧ yW (tb t) k < 24 ∧ dr (24 * t + yW (tb t) k) = true) := by
      unfold wNo at hw ⊢
      by_cases z : 0 < yW (tb t) k ∧ yW (tb t) k < 24 ∧ dr (24 * t + yW (tb t) k) = true
      · rw [if_pos z] at hw; exact absurd rfl hw
      · rw [if_neg z]; exact ⟨rfl, z⟩
    have hS24 := hS t b1
    by_cases c1 : x.2.1 = 1 ∨ x.2.1 = 3
    · obtain ⟨_, e2, e3⟩ := d5 c1 t k e
      by_cases c3 : yW (tb t) k = 65521
      · right
        rw [e2 c3, if_pos c1, hwe.1, c3]
        refine ⟨by decide, ?_⟩
        unfold secT
        rw [if_neg (fun z => by omega)]
      · left
        obtain ⟨e4, e5⟩ := e3 c3
        have hlt : yW (tb t) k < oS (tb t) := by
          rcases yOK_W hok with z | z | z | z
          · rw [hwe.1] at hw; exact absurd z hw
          · exact absurd z c3
          · exfalso
            have b5' := b5
            rw [sOf_w hw, if_pos z] at b5'
            omega
          · exact z
        have h0 : 0 < yW (tb t) k := by rw [hwe.1] at hw; omega
        have hk := ((of_decide_eq_true hok).2.2.2 b4).1 h0 hlt
        have hdr : dr (24 * t + yW (tb t) k) = false := Bool.eq_false_iff.mpr (fun z => hwe.2 ⟨h0, by omega, z⟩)
        refine ⟨e4, 24 * t + yW (tb t) k, ?_, e5, by omega⟩
        show (if x.2.1 = 1 ∨ x.2.1 = 3 then secT tb dr t (wNo dr t (tb t) k) else none) = _
        rw [if_pos c1, hwe.1]
        unfold secT
        rw [if_pos ⟨h0, hlt, hk, hdr⟩]
    · right
      rw [if_neg c1]
      refine ⟨?_, rfl⟩
      have hs3 := sOf_3 (dr := dr) (t := t) (b := tb t) (k := k)
      have e2 : x.2.1 = 2 := by omega
      rw [(d3 e2).1]
      decide
theorem k_reachName {P : Nat} {x : List Nat × px_NR} (h : RQs sk L own τ fs s xs u) (hW : WP s.2.2.1.length (tB fs s.2.2.1) s.2.1.1 xs) (hx : xs[P]? = some x) : ∃ τ', f_Link_reachName F c 147 (some (pN τ 149 P)) (cH sk L τ) = some ((), cH sk L τ') ∧ RQs sk L own τ' fs s xs (cs1 (secN (tB fs s.2.2.1) s.2.1.1 x.2) (cn1 (comN xs P) u)) ∧ frKr τ τ' := by
  obtain ⟨h1, h2, h3, h4, h5, h6⟩ := id h
  have hS := h1.1
  obtain ⟨z1, z2, z3, z4⟩ := CLm_at h1.2.2.2.1.2.1 hx
  have zq := (h1.2.2.2.1.1 149 P _ (Or.inr (Or.inr rfl)) z2).1
  obtain ⟨p, hp⟩ : ∃ p, p = pN τ 149 P := ⟨_, rfl⟩
  rw [← hp] at z2 z3 zq ⊢
  obtain ⟨τ1, hτ1⟩ : ∃ y, y = tI τ p 13 (bI true) := ⟨_, rfl⟩
  have f1 : frKr τ τ1 := by
    rw [hτ1]
    exact ⟨fun a k q _ _ => tI_ne (Or.inl (by omega)), fun a k _ q => tI_ne (Or.inr q), fun _ _ => rfl, fun _ _ => rfl, fun _ => rfl, fun _ => rfl, fun _ _ => rfl⟩
  have hq1 : RQs sk L own τ1 fs s xs (cn1 (comN xs P) u) := by
    have e1 : (cn1 (comN xs P) u).1 = u.1 ∧ (cn1 (comN xs P) u).2.2 = u.2.2 := by
      unfold cn1
      cases comN xs P <;> exact ⟨rfl, rfl⟩
    refine ⟨TKe_Kr h1 f1 (fun z hz => ?_) (fun i y hy e2 => ?_), ?_, ?_, ?_, ?_, ?_⟩
    · rw [e1.1, hτ1, tI_ne (Or.inl (by have := BK_T (s := s) h1.2.2.2.2.1.1; omega))]
      exact (TKe_part h1 hz).2.1
    · obtain ⟨y1, y2, y3, y4⟩ := CLm_at h1.2.2.2.1.2.1 hy
      by_cases ci : i = P
      · have hn : (cn1 (comN xs P) u).2.1 i = true := by
          unfold comN
          rw [ci] at hy ⊢
          rw [stN_at hy, if_pos e2]
          exact bup_e
        rw [hn, ci, ← hp, hτ1, tI_at]
      · have hn : (cn1 (comN xs P) u).2.1 i = u.2.1 i := by
          unfold comN cn1
          split
          · rfl
          · rename_i n hn
            split at hn
            · have hn : P = n := Option.some.inj hn
              show bup u.2.1 n i = _
              unfold bup
              rw [if_neg (by omega)]
            · cases hn
        have hne : pN τ 149 i ≠ p := NP_ne h1.2.2.2.1.1 (Or.inr (Or.inr rfl)) (Or.inr (Or.inr rfl)) y2 z2 (fun q => ci q.2)
        rw [hn, hτ1, tI_ne (Or.inl hne)]
        exact (h1.2.2.2.1.2.1.2.1 i y hy).2 e2
    · rw [e1.2, hτ1, tI_ne (Or.inl (by omega))]; exact h2
    · rw [e1.2, hτ1]; exact h3
    · rw [e1.2]; exact h4
    · rw [e1.1, e1.2]; exact h5
    · rw [e1.2]; exact h6
  have hc1 := (hq1.1.2.2.2.1.2.1.2.1 P x hx).1
  have ep : pN τ1 149 P = p := by rw [hp, hτ1]; rfl
  rw [ep] at hc1
  have hob : ∀ t, t < s.2.2.1.length → (∀ k, 1 ≤ k → k < oM (tB fs s.2.2.1 t) → yOK (tB fs s.2.2.1 t) k = true) ∧ oS (tB fs s.2.2.1 t) ≤ 24 := fun t ht => by
    obtain ⟨q, _, _, _, _, he, _⟩ := TKe_ob h1 ht
    exact ⟨(eObj_0 he).2.1, (eObj_0 he).1.1.2.1.2⟩
  unfold f_Link_reachName f_Link_reachName_21
  rw [bs, show xpZ _ 5 13 p (nI 1) = _ from C5z13 z3 true, bs, ← hτ1, C5g5 z3, bs]
  rcases home_of hc1 (hW.2.2.1 P x hx) (h1.2.2.2.2.2.1 P x hx) (fun t ht => (hob t ht).1) (fun t ht => (hob t ht).2) with ⟨a1, y, a2, a3, a4⟩ | ⟨a1, a2⟩
  · rw [a1, if_pos rfl, C5n6 z3, bs, a3, c_o (G147 hS), bs, a2]
    obtain ⟨τ2, b1, b2, b3⟩ := k_reachPart (F := F) (c := c) (y := some y) hq1 (fun x e => by cases e; exact a4)
    have b1 : f_Link_reachPart F c 147 (some (152 + y)) (cH sk L τ1) = _ := b1
    exact ⟨τ2, by rw [b1, xb_mk], b2, frKr_trans f1 b3⟩
  · rw [if_neg a1, a2]
    exact ⟨τ1, rfl, hq1, f1⟩
theorem k_object (h : TKe sk L own τ fs s xs ST rn) {q : Nat} (hq : s.2.2.1[t]? = some q) : f_Link_object F c 147 (nI t) (cH sk L τ) = some (some (10 + 2 * q), cH sk L τ) := by
  have hS := h.1
  have hT := BK_T (s := s) h.2.2.2.2.1.1
  have ht := (List.getElem?_eq_some_iff.mp hq).1
  have o147 := G147 hS
  unfold f_Link_object f_Link_object_31 f_Link_object_44
  rw [if_neg (show ¬ nI t < 0 from nI_nlt (b := 0) (Nat.zero_le _) (by omega)), C3g14 o147, bs, h.2.2.2.1.2.2.1, if_neg (nI_ge ht (by omega)), C3r6 o147 (GR_r (v := 1689) h.2.1 (by decide)), bs, c_l (G1689 hS) (by decide), bs, if_neg (nI_ge (by omega) (by omega)), bs, c_aN (G1689 hS) (by decide) (by decide) (by omega), bs, (h.2.2.2.1.2.2.2 t q hq).2.2]
end CRD
end
section
/-! partOf, reachSymbol of the class -/
section CRE
variable {F : Nat} {c : px_CT} {sk : Nat → Nat × Nat × Nat} {L : Nat} {τ τ' : px_TT} {own : Nat → Nat × Nat} {fs : px_FS} {s : px_TK} {xs : px_NL} {ST rn : Nat → Bool} {u : px_CQ} {t j : Nat}
theorem TKe_ys (h : TKe sk L own τ fs s xs ST rn) : ∀ t, t < s.2.2.1.length → (∀ k, 1 ≤ k → k < oM (tB fs s.2.2.1 t) → yOK (tB fs s.2.2.1 t) k = true) ∧ oS (tB fs s.2.2.1 t) ≤ 24 ∧ oM (tB fs s.2.2.1 t) ≤ 64 := fun t ht => by
  obtain ⟨q, _, _, _, _, he, _⟩ := TKe_ob h ht
  exact ⟨(eObj_0 he).2.1, (eObj_0 he).1.1.2.1.2, w2_M (eObj_0 he).1⟩
theorem secT_m {tb : Nat → Nat → Nat} {dr : Nat → Bool} {w y : Nat} (h : secT tb dr t w = some y) : y = 24 * t + w ∧ 0 < w ∧ w < oS (tb t) ∧ oK (tb t) w = true ∧ dr (24 * t + w) = false := by
  unfold secT at h
  split at h
  · rename_i q
    exact ⟨(Option.some.inj h).symm, q⟩
  · cases h
theorem k_partOf (h : TKe sk L own τ fs s xs ST rn) (hF : 8 < F) (hW : WP s.2.2.1.length (tB fs s.2.2.1) s.2.1.1 xs) (ht : t < s.2.2.1.length) (hj : j < oM (tB fs s.2.2.1 t)) : f_Link_partOf F c 147 (nI t) (nI j) (cH sk L τ) = some ((secY (tB fs s.2.2.1) s.2.1.1 xs t j).map (fun x => 152 + x), cH sk L τ) := by
  obtain ⟨q, q1, q2, hD, hcb, he, hp, hRS, h89⟩ := TKe_ob h ht
  obtain ⟨hyo, hS24, hM64⟩ := TKe_ys h t ht
  have hS := h.1
  have hR := h.2.1
  have hT := BK_T (s := s) h.2.2.2.2.1.1
  have o147 := G147 hS
  obtain ⟨y1, y2⟩ := hRS j (by omega)
  unfold f_Link_partOf
  rw [c_o o147, bs, k_nameOf hS hR (by omega) (by omega), y1, xb_mk]
  unfold syN secY
  by_cases ch : hsN (tB fs s.2.2.1 t) j = true
  · obtain ⟨m1, m2, m3⟩ := of_decide_eq_true ch
    obtain ⟨x, hx, hxw, _⟩ := plc_ix (y2 ch)
    rw [if_pos ch, if_neg (by omega), if_neg m3, hx]
    obtain ⟨P, hP⟩ : ∃ P, P = plc (yT (tB fs s.2.2.1 t) j) (xs.map Prod.fst) := ⟨_, rfl⟩
    rw [← hP] at hx ⊢
    obtain ⟨z1, z2, z3, z4⟩ := CLm_at h.2.2.2.1.2.1 hx
    have hc1 := (h.2.2.2.1.2.1.2.1 P x hx).1
    show ((xgI (cH sk L τ) 5 5 (pN τ 149 P)).bind _) = some ((secN (tB fs s.2.2.1) s.2.1.1 x.2).map _, _)
    rw [C5g5 z3, bs]
    unfold f_Link_partOf_27
    rcases home_of hc1 (hW.2.2.1 P x hx) (h.2.2.2.2.2.1 P x hx) (fun t ht => (TKe_ys h t ht).1) (fun t ht => (TKe_ys h t ht).2.1) with ⟨a1, y, a2, a3, a4⟩ | ⟨a1, a2⟩
    · rw [a1, if_pos rfl, C5n6 z3, bs, a3, a2]; rfl
    · rw [if_neg a1, a2]; rfl
  · rw [if_neg ch]
    have hj0 : j = 0 ∨ yB (tB fs s.2.2.1 t) j = 0 := by
      by_cases z : j = 0
      · exact Or.inl z
      · by_cases z2 : yB (tB fs s.2.2.1 t) j = 0
        · exact Or.inr z2
        · exact absurd (decide_eq_true (show 1 ≤ j ∧ j < oM (tB fs s.2.2.1 t) ∧ yB (tB fs s.2.2.1 t) j ≠ 0 from ⟨by omega, hj, z2⟩)) ch
    show ((xo (cH sk L τ) 3 147).bind _) = _
    rw [c_o o147, bs, k_object h q1, xb_mk]
    by_cases c0 : j = 0
    · rw [if_pos (show nI j = 0 by rw [c0]; rfl), if_pos c0]
      unfold f_Link_partOf_62 f_Link_partOf_80
      rw [if_pos rfl]
      rfl
    · have hB0 := hj0.resolve_left c0
      obtain ⟨e1, e2, e3⟩ := cS_y hD.1 (show j < oM (cb (eI τ 8) (bsO fs q) (tNf fs s.2.2.1 t)) by rw [hcb]; exact hj)
      have n6 := k_num (F := F) (c := c) (x := yP (cb (eI τ 8) (bsO fs q) (tNf fs s.2.2.1 t)) j + 6) (k := 2) hD.1.1.1.1 hF (by decide) (by omega)
      rw [nm_in (by omega), show le (cb (eI τ 8) (bsO fs q) (tNf fs s.2.2.1 t)) (yP (cb (eI τ 8) (bsO fs q) (tNf fs s.2.2.1 t)) j + 6) 2 = yW (cb (eI τ 8) (bsO fs q) (tNf fs s.2.2.1 t)) j from rfl] at n6
      have oq := hD.1.1.1.1.1
      rw [if_neg (show ¬ nI j = 0 from fun z => c0 ((nI_eq (b := 0) (by omega) (by decide)).mp z)), bs, C7g10 oq, bs, c_o oq, bs, e1, pk_mul, nI_add, nI_add, show oP (cb (eI τ 8) (bsO fs q) (tNf fs s.2.2.1 t)) (oY (cb (eI τ 8) (bsO fs q) (tNf fs s.2.2.1 t))) + 24 * j = yP (cb (eI τ 8) (bsO fs q) (tNf fs s.2.2.1 t)) j from rfl, n6, xb_mk, hcb, if_neg c0, if_pos hB0]
      have hW16 : yW (tB fs s.2.2.1 t) j < 65536 := by rw [← hcb]; exact le_lt (fun x => cb_lt _ _ _ x) _ _
      unfold f_Link_partOf_62 f_Link_partOf_80 f_Link_partOf_107 wNo
      generalize hw : yW (tB fs s.2.2.1 t) j = w at *
      by_cases w0 : w = 0
      · rw [if_pos (by rw [w0]), if_neg (by omega), w0]
        unfold secT
        rw [if_neg (fun z => absurd z.1 (by decide))]
        rfl
      · rw [if_neg (show ¬ lN w = lN 0 from fun z => w0 ((lEQ (by omega) (by decide)).mp z))]
        by_cases w24 : w < 24
        · have hpw := hp w w24
          rw [if_pos (show lN w < (24 : Int64) from (lt31 (b := 24) (by omega) (by decide)).mpr w24), c_o o147, bs, lN_i, k_part hS hR (by omega) w24, xb_mk, bs, C8g8 (G_part hS (show 24 * t + w < 1536 by omega)), bs, hpw.2.2.2.1]
          cases ed : s.2.1.1 (24 * t + w) with
          | true =>
            rw [if_pos rfl, if_neg (show ¬ nI 2 = nI 1 by decide), if_pos ⟨by omega, w24, rfl⟩]
            unfold secT
            rw [if_neg (fun z => absurd z.1 (by decide))]
            rfl
          | false =>
            rw [if_neg (show ¬ false = true by decide), if_neg (show ¬ (0 < w ∧ w < 24 ∧ false = true) from fun z => nomatch z.2.2)]
            cases ek : kpB (tB fs s.2.2.1 t) w with
            | true =>
              obtain ⟨k1, k2⟩ := (Bool.and_eq_true _ _).mp ek
              rw [if_pos rfl, if_pos rfl]
              unfold secT
              rw [if_pos ⟨by omega, of_decide_eq_true k1, k2, ed⟩]
              rfl
            | false =>
              rw [if_neg (show ¬ false = true by decide), if_neg (show ¬ nI 0 = nI 1 by decide)]
              unfold secT
              rw [if_neg (fun z => by
                have : kpB (tB fs s.2.2.1 t) w = true := (Bool.and_eq_true _ _).mpr ⟨decide_eq_true z.2.1, z.2.2.1⟩
                rw [ek] at this; cases this)]
              rfl
        · rw [if_neg (show ¬ lN w < (24 : Int64) from fun z => w24 ((lt31 (b := 24) (by omega) (by decide)).mp z)), if_neg (fun z => w24 z.2.1)]
          unfold secT
          rw [if_neg (fun z => by omega)]
          rfl
theorem secY_T (h : TKe sk L own τ fs s xs ST rn) (hW : WP s.2.2.1.length (tB fs s.2.2.1) s.2.1.1 xs) (ht : t < s.2.2.1.length) {y : Nat} (he : secY (tB fs s.2.2.1) s.2.1.1 xs t j = some y) : y < 24 * s.2.2.1.length := by
  have hs24 := fun t ht => (TKe_ys h t ht).2.1
  have hTl : ∀ t' w y, t' < s.2.2.1.length → secT (tB fs s.2.2.1) s.2.1.1 t' w = some y → y < 24 * s.2.2.1.length := fun t' w y h1 h2 => by
    obtain ⟨e1, e2, e3, _⟩ := secT_m h2
    have := hs24 t' h1
    omega
  unfold secY at he
  split at he
  · cases he
  · split at he
    · exact hTl _ _ _ ht he
    · cases hx : xs[plc (yT (tB fs s.2.2.1 t) j) (xs.map Prod.fst)]? with
      | none => rw [hx] at he; cases he
      | some x =>
        rw [hx] at he
        have he : secN (tB fs s.2.2.1) s.2.1.1 x.2 = some y := he
        have hb := hW.2.2.1 _ x hx
        unfold byP at hb
        unfold secN at he
        cases e : x.2.2.2.2.1 with
        | none => rw [e] at he; cases he
        | some q =>
          rw [e] at he hb
          have he : (if x.2.1 = 1 ∨ x.2.1 = 3 then secT (tB fs s.2.2.1) s.2.1.1 q.1 (wNo s.2.1.1 q.1 (tB fs s.2.2.1 q.1) q.2) else none) = some y := he
          split at he
          · exact hTl _ _ _ hb.1 he
          · cases he
theorem k_reachSymbol (h : RQs sk L own τ fs s xs u) (hF : 8 < F) (hW : WP s.2.2.1.length (tB fs s.2.2.1) s.2.1.1 xs) (ht : t < s.2.2.1.length) (hj : j < oM (tB fs s.2.2.1 t)) : ∃ τ', f_Link_reachSymbol F c 147 (nI t) (nI j) (cH sk L τ) = some ((), cH sk L τ') ∧ RQs sk L own τ' fs s xs (cs1 (secY (tB fs s.2.2.1) s.2.1.1 xs t j) (cn1 (comY (tB fs s.2.2.1) xs t j) u)) ∧ frKr τ τ' := by
  have h1 := h.1
  obtain ⟨q, q1, q2, hD, hcb, he, hp, hRS, h89⟩ := TKe_ob h1 ht
  obtain ⟨hyo, hS24, hM64⟩ := TKe_ys h1 t ht
  have hS := h1.1
  have hR := h1.2.1
  have hT := BK_T (s := s) h1.2.2.2.2.1.1
  have o147 := G147 hS
  obtain ⟨y1, y2⟩ := hRS j (by omega)
  unfold f_Link_reachSymbol f_Link_reachSymbol_29
  rw [c_o o147, bs, k_nameOf hS hR (by omega) (by omega), y1, xb_mk]
  unfold syN
  by_cases ch : hsN (tB fs s.2.2.1 t) j = true
  · obtain ⟨m1, m2, m3⟩ := of_decide_eq_true ch
    obtain ⟨x, hx, hxw, _⟩ := plc_ix (y2 ch)
    have es : secY (tB fs s.2.2.1) s.2.1.1 xs t j = secN (tB fs s.2.2.1) s.2.1.1 x.2 := by
      unfold secY
      rw [if_neg (by omega), if_neg m3, hx]
    have ec : comY (tB fs s.2.2.1) xs t j = comN xs (plc (yT (tB fs s.2.2.1 t) j) (xs.map Prod.fst)) := by
      unfold comY
      rw [if_neg (fun z => z.elim (by omega) m3)]
    rw [if_pos ch, es, ec]
    obtain ⟨τ2, b1, b2, b3⟩ := k_reachName (F := F) (c := c) h hW hx
    refine ⟨τ2, ?_, b2, b3⟩
    show ((xo (cH sk L τ) 3 147).bind _) = _
    rw [c_o o147, bs, b1, xb_mk]
  · have ec : comY (tB fs s.2.2.1) xs t j = none := by
      unfold comY
      rw [if_pos]
      by_cases z : j = 0
      · exact Or.inl z
      · by_cases z2 : yB (tB fs s.2.2.1 t) j = 0
        · exact Or.inr z2
        · exact absurd (decide_eq_true (show 1 ≤ j ∧ j < oM (tB fs s.2.2.1 t) ∧ yB (tB fs s.2.2.1 t) j ≠ 0 from ⟨by omega, hj, z2⟩)) ch
    rw [if_neg ch, ec]
    obtain ⟨τ2, b1, b2, b3⟩ := k_reachPart (F := F) (c := c) (y := secY (tB fs s.2.2.1) s.2.1.1 xs t j) h (fun x e => secY_T h1 hW ht e)
    refine ⟨τ2, ?_, b2, b3⟩
    show ((xo (cH sk L τ) 3 147).bind _) = _
    rw [c_o o147, bs, k_partOf h1 hF hW ht hj, xb_mk, c_o o147, bs, b1, xb_mk]
end CRE
end
section
/-! reachFrom of the class -/
def cJ (tb : Nat → Nat → Nat) (dr : Nat → Bool) (xs : px_NL) (t i j : Nat) (u : px_CQ) : px_CQ := if sH (tb t) i j = 0 then u else cs1 (secY tb dr xs t (sY (tb t) i j)) (cn1 (comY tb xs t (sY (tb t) i j)) u)
def cI (tb : Nat → Nat → Nat) (dr : Nat → Bool) (xs : px_NL) (t w i : Nat) (u : px_CQ) : px_CQ := if isS (tb t) i = true ∧ oI (tb t) i = w then itr (cJ tb dr xs t i) 0 (sN (tb t) i) u else u
def cP (tb : Nat → Nat → Nat) (dr : Nat → Bool) (xs : px_NL) (x : Nat) (u : px_CQ) : px_CQ := itr (cI tb dr xs (x / 24) (x % 24)) 0 (oS (tb (x / 24))) u
section CRF
variable {F : Nat} {c : px_CT} {sk : Nat → Nat × Nat × Nat} {L : Nat} {τ : px_TT} {own : Nat → Nat × Nat} {fs : px_FS} {s : px_TK} {xs : px_NL} {ST rn : Nat → Bool} {t i j : Nat} {q g base n : Nat} {S : Nat → Int32} {b : Nat → Nat}
theorem nI_m1 {k : Nat} (h : k < 2 ^ 31) : ¬ nI k = Int32.ofInt (-1) := fun e => by
  have h1 := nI_pos' h
  rw [e] at h1
  exact absurd h1 (by decide)
theorem isS_1 (he : eObj b n = 0) (hs : isS b i = true) : 1 ≤ i := by
  rcases Nat.eq_zero_or_pos i with e | e
  · have := (of_decide_eq_true hs).1
    rw [e, (eObj_g he).1] at this
    cases this
  · exact e
theorem s_place (he : eObj b n = 0) (hi : i < oS b) (hs : isS b i = true) (hj : j < sN b i) : sP b i j + 24 ≤ n ∧ sY b i j < oM b := by
  have h2 := eSit_0 he (isS_1 he hs) hi hs
  have h3 := h2.2.2.2.1
  have h4 := h2.2.2.2.2.1
  refine ⟨?_, (sOK_0w (h2.2.2.2.2.2 j hj)).2.1⟩
  unfold sP
  unfold sN at hj
  omega
/-- the class's reading of a site -/
theorem k_site (hD : cD sk L τ q g base n S) (hF : 8 < F) (hb : cb S base n = b) (hp : sP b i j + 24 ≤ n) : f_ObjectFile_num F c q (nI (sP b i j)) (nI 8) (cH sk L τ) = some (lN (le b (sP b i j) 8), cH sk L τ) ∧ f_ObjectFile_num F c q (nI (sP b i j + 8)) (nI 4) (cH sk L τ) = some (lN (sH b i j), cH sk L τ) ∧ f_ObjectFile_num F c q (nI (sP b i j + 12)) (nI 4) (cH sk L τ) = some (lN (sY b i j), cH sk L τ) ∧ f_ObjectFile_num F c q (nI (sP b i j + 16)) (nI 8) (cH sk L τ) = some (lN (le b (sP b i j + 16) 8), cH sk L τ) := by
  have hO := hD.1.1.1.1
  have hn : base + n ≤ 65536 := hO.2.2.2.2.2.2.2.2.1
  obtain ⟨P, hP⟩ : ∃ P, P = sP b i j := ⟨_, rfl⟩
  unfold sH sY
  rw [← hP] at hp ⊢
  refine ⟨?_, ?_, ?_, ?_⟩
  · rw [k_num hO hF (by decide) (by omega), nm_in (by omega), hb]
  · rw [k_num hO hF (by decide) (by omega), nm_in (by omega), hb]
  · rw [k_num hO hF (by decide) (by omega), nm_in (by omega), hb]
  · rw [k_num hO hF (by decide) (by omega), nm_in (by omega), hb]
theorem k_sitesOf (hD : cD sk L τ q g base n S) (hF : 8 < F) (hb : cb S base n = b) (hi : i < oS b) (hs : isS b i = true) : f_ObjectFile_sitesOf F c q (nI i) (cH sk L τ) = some (nI (sN b i), cH sk L τ) ∧ f_ObjectFile_placeOf F c q (nI i) (cH sk L τ) = some (lN (oP b i), cH sk L τ) ∧ f_ObjectFile_targetOf F c q (nI i) (cH sk L τ) = some (nI (oI b i), cH sk L τ) := by
  have he : eObj b n = 0 := by rw [← hb]; exact hD.2.2
  have hz := (eSit_0 he (isS_1 he hs) hi hs).2.2.2.1
  have hn : base + n ≤ 65536 := hD.1.1.1.1.2.2.2.2.2.2.2.2.1
  have hi' : i < oS (cb S base n) := by rw [hb]; exact hi
  obtain ⟨k1, k2, k3⟩ := cD_sec (F := F) (c := c) hD hF hi'
  refine ⟨?_, by rw [k3, hb], ?_⟩
  · unfold f_ObjectFile_sitesOf
    rw [c_o hD.1.1.1.1.1, bs, k1, xb_mk, hb, show (24 : Int64) = lN 24 from rfl, pk_lDiv (by omega) (by decide) (by decide), lN_i]
    simp only [sN]
  · rw [k_targetOf hD.1.1 hF hi', hb, if_pos hs]
theorem k_target0 (hD : cD sk L τ q g base n S) (hF : 8 < F) (hb : cb S base n = b) (hi : i < oS b) (hs : ¬ isS b i = true) : f_ObjectFile_targetOf F c q (nI i) (cH sk L τ) = some (Int32.ofInt (-1), cH sk L τ) := by
  have hi' : i < oS (cb S base n) := by rw [hb]; exact hi
  rw [k_targetOf hD.1.1 hF hi', hb, if_neg hs]
theorem k_rf_52 {k11 : Nat → Option Nat → Option Nat → Int32 → px_H → Option (Unit × px_H)} {x : Nat} (hF : 65536 < F) (hW : WP s.2.2.1.length (tB fs s.2.2.1) s.2.1.1 xs) (hx : x < 24 * s.2.2.1.length) (hq : s.2.2.1[x / 24]? = some q) (hi : i < oS (tB fs s.2.2.1 (x / 24))) (hs : isS (tB fs s.2.2.1 (x / 24)) i = true) : ∀ (d j f : Nat) (τ : px_TT) (u : px_CQ), j + d = sN (tB fs s.2.2.1 (x / 24)) i → d < f → RQs sk L own τ fs s xs u → ∃ τ', f_Link_reachFrom_52 F c k11 f 147 (some (152 + x)) (some (10 + 2 * q)) (nI i) (nI (sP (tB fs s.2.2.1 (x / 24)) i j)) (nI (sN (tB fs s.2.2.1 (x / 24)) i)) (nI j) (cH sk L τ) = k11 147 (some (152 + x)) (some (10 + 2 * q)) (nI (i + 1)) (cH sk L τ') ∧ RQs sk L own τ' fs s xs (itr (cJ (tB fs s.2.2.1) s.2.1.1 xs (x / 24) i) j d u) ∧ frKr τ τ' := by
  intro d
  induction d with
  | zero =>
    intro j f τ u hj hf h
    obtain ⟨f, rfl⟩ : ∃ x, f = x + 1 := ⟨f - 1, by omega⟩
    have ht : x / 24 < s.2.2.1.length := by omega
    obtain ⟨q', q1, q2, hD, hcb, he, hp, hRS, h89⟩ := TKe_ob h.1 ht
    have hz := (eSit_0 he (isS_1 he hs) hi hs).2.2.2.1
    have hn : bsO fs q' + tNf fs s.2.2.1 (x / 24) ≤ 65536 := hD.1.1.1.1.2.2.2.2.2.2.2.2.1
    have hsN : sN (tB fs s.2.2.1 (x / 24)) i < 2 ^ 30 := by unfold sN; omega
    refine ⟨τ, ?_, h, frKr_refl⟩
    unfold f_Link_reachFrom_52 f_Link_reachFrom_102
    rw [if_pos (nI_le (by omega) (by omega)), nI_add]
  | succ d ih =>
    intro j f τ u hj hf h
    obtain ⟨f, rfl⟩ : ∃ x, f = x + 1 := ⟨f - 1, by omega⟩
    have ht : x / 24 < s.2.2.1.length := by omega
    obtain ⟨q', q1, q2, hD, hcb, he, hp, hRS, h89⟩ := TKe_ob h.1 ht
    have eq' : q' = q := by rw [hq] at q1; exact (Option.some.inj q1).symm
    rw [eq'] at hD hcb q2
    have hz := (eSit_0 he (isS_1 he hs) hi hs).2.2.2.1
    have hn : bsO fs q + tNf fs s.2.2.1 (x / 24) ≤ 65536 := hD.1.1.1.1.2.2.2.2.2.2.2.2.1
    have hsN : sN (tB fs s.2.2.1 (x / 24)) i < 2 ^ 30 := by unfold sN; omega
    obtain ⟨hpl, hy⟩ := s_place he hi hs (show j < sN (tB fs s.2.2.1 (x / 24)) i by omega)
    obtain ⟨s1, s2, s3, s4⟩ := k_site (F := F) (c := c) hD (by omega) hcb hpl
    obtain ⟨p1, p2, p3, p4⟩ := TKe_part h.1 hx
    have oq := hD.1.1.1.1.1
    have hsH : sH (tB fs s.2.2.1 (x / 24)) i j < 2 ^ 32 := by
      unfold sH
      rw [← hcb]
      exact le_lt (fun k => cb_lt _ _ _ k) _ 4
    have hsp : sP (tB fs s.2.2.1 (x / 24)) i j + 24 = sP (tB fs s.2.2.1 (x / 24)) i (j + 1) := by unfold sP; omega
    have go : ∀ τ1 u1, u1 = cJ (tB fs s.2.2.1) s.2.1.1 xs (x / 24) i j u → RQs sk L own τ1 fs s xs u1 → frKr τ τ1 → ∃ τ', f_Link_reachFrom_93 F c k11 (f_Link_reachFrom_52 F c k11 f) 147 (some (152 + x)) (some (10 + 2 * q)) (nI i) (nI (sP (tB fs s.2.2.1 (x / 24)) i j)) (nI (sN (tB fs s.2.2.1 (x / 24)) i)) (nI j) (cH sk L τ1) = k11 147 (some (152 + x)) (some (10 + 2 * q)) (nI (i + 1)) (cH sk L τ') ∧ RQs sk L own τ' fs s xs (itr (cJ (tB fs s.2.2.1) s.2.1.1 xs (x / 24) i) j (d + 1) u) ∧ frKr τ τ' := fun τ1 u1 e1 e2 e3 => by
      obtain ⟨τ', j1, j2, j3⟩ := ih (j + 1) f τ1 u1 (by omega) (by omega) e2
      refine ⟨τ', ?_, ?_, frKr_trans e3 j3⟩
      · unfold f_Link_reachFrom_93
        rw [nI_add, nI_add, hsp]
        exact j1
      · rw [itr_s, ← e1]; exact j2
    unfold f_Link_reachFrom_52
    rw [if_neg (nI_ge (by omega) (by omega)), bs, c_o oq, bs, nI_add, s2, xb_mk]
    by_cases c1 : sH (tB fs s.2.2.1 (x / 24)) i j = 0
    · rw [if_pos (by rw [c1])]
      exact go τ u (by unfold cJ; rw [if_pos c1]) h frKr_refl
    · rw [if_neg (show ¬ lN (sH (tB fs s.2.2.1 (x / 24)) i j) = lN 0 from fun z => c1 ((lEQ (by omega) (by decide)).mp z)), bs, C8g0 p1, bs, p3, c_o oq, bs, nI_add, s3, xb_mk, c_o (G147 h.1.1), bs, lN_i]
      obtain ⟨τ1, b1, b2, b3⟩ := k_reachSymbol (F := F) (c := c) h (by omega) hW ht hy
      rw [b1, xb_mk]
      exact go τ1 _ (by unfold cJ; rw [if_neg c1]) b2 b3
theorem k_rf_11 {x : Nat} (hF : 65536 < F) (hW : WP s.2.2.1.length (tB fs s.2.2.1) s.2.1.1 xs) (hx : x < 24 * s.2.2.1.length) (hq : s.2.2.1[x / 24]? = some q) : ∀ (d i f : Nat) (τ : px_TT) (u : px_CQ), i + d = oS (tB fs s.2.2.1 (x / 24)) → d < f → RQs sk L own τ fs s xs u → ∃ τ', f_Link_reachFrom_11 F c f 147 (some (152 + x)) (some (10 + 2 * q)) (nI i) (cH sk L τ) = some ((), cH sk L τ') ∧ RQs sk L own τ' fs s xs (itr (cI (tB fs s.2.2.1) s.2.1.1 xs (x / 24) (x % 24)) i d u) ∧ frKr τ τ' := by
  intro d
  induction d with
  | zero =>
    intro i f τ u hi hf h
    obtain ⟨f, rfl⟩ : ∃ x, f = x + 1 := ⟨f - 1, by omega⟩
    have ht : x / 24 < s.2.2.1.length := by omega
    obtain ⟨q', q1, q2, hD, hcb, he, hp, hRS, h89⟩ := TKe_ob h.1 ht
    have eq' : q' = q := by rw [hq] at q1; exact (Option.some.inj q1).symm
    rw [eq'] at hD hcb q2
    have hS24 := (TKe_ys h.1 _ ht).2.1
    refine ⟨τ, ?_, h, frKr_refl⟩
    unfold f_Link_reachFrom_11 f_Link_reachFrom_108
    rw [bs, C7g8 hD.1.1.1.1.1, bs, hD.1.1.1.2.2.2.2, hcb, if_pos (nI_le (by omega) (by omega))]
  | succ d ih =>
    intro i f τ u hi hf h
    obtain ⟨f, rfl⟩ : ∃ x, f = x + 1 := ⟨f - 1, by omega⟩
    have ht : x / 24 < s.2.2.1.length := by omega
    obtain ⟨q', q1, q2, hD, hcb, he, hp, hRS, h89⟩ := TKe_ob h.1 ht
    have eq' : q' = q := by rw [hq] at q1; exact (Option.some.inj q1).symm
    rw [eq'] at hD hcb q2
    have hS24 := (TKe_ys h.1 _ ht).2.1
    have oq := hD.1.1.1.1.1
    have hiS : i < oS (tB fs s.2.2.1 (x / 24)) := by omega
    obtain ⟨p1, p2, p3, p4⟩ := TKe_part h.1 hx
    have next : ∀ τ1 u1, u1 = cI (tB fs s.2.2.1) s.2.1.1 xs (x / 24) (x % 24) i u → RQs sk L own τ1 fs s xs u1 → frKr τ τ1 → ∃ τ', f_Link_reachFrom_11 F c f 147 (some (152 + x)) (some (10 + 2 * q)) (nI (i + 1)) (cH sk L τ1) = some ((), cH sk L τ') ∧ RQs sk L own τ' fs s xs (itr (cI (tB fs s.2.2.1) s.2.1.1 xs (x / 24) (x % 24)) i (d + 1) u) ∧ frKr τ τ' := fun τ1 u1 e1 e2 e3 => by
      obtain ⟨τ', j1, j2, j3⟩ := ih (i + 1) f τ1 u1 (by omega) (by omega) e2
      exact ⟨τ', j1, by rw [itr_s, ← e1]; exact j2, frKr_trans e3 j3⟩
    have no : cI (tB fs s.2.2.1) s.2.1.1 xs (x / 24) (x % 24) i u = u → ∃ τ', f_Link_reachFrom_102 F c (f_Link_reachFrom_11 F c f) 147 (some (152 + x)) (some (10 + 2 * q)) (nI i) (cH sk L τ) = some ((), cH sk L τ') ∧ RQs sk L own τ' fs s xs (itr (cI (tB fs s.2.2.1) s.2.1.1 xs (x / 24) (x % 24)) i (d + 1) u) ∧ frKr τ τ' := fun e => by
      unfold f_Link_reachFrom_102
      rw [nI_add]
      exact next τ u e.symm h frKr_refl
    unfold f_Link_reachFrom_11
    rw [bs, C7g8 oq, bs, hD.1.1.1.2.2.2.2, hcb, if_neg (nI_ge hiS (by omega)), c_o oq, bs]
    by_cases cs : isS (tB fs s.2.2.1 (x / 24)) i = true
    · obtain ⟨k1, k2, k3⟩ := k_sitesOf (F := F) (c := c) hD (by omega) hcb hiS cs
      have hoI := (eSit_0 he (isS_1 he cs) hiS cs).1
      rw [k3, xb_mk, bs, C8g3 p1, bs, p4]
      by_cases cw : oI (tB fs s.2.2.1 (x / 24)) i = x % 24
      · rw [if_pos (by rw [cw]), c_o oq, bs, k2, xb_mk, c_o oq, bs, k1, xb_mk, lN_i, show oP (tB fs s.2.2.1 (x / 24)) i = sP (tB fs s.2.2.1 (x / 24)) i 0 by unfold sP; omega]
        have hz := (eSit_0 he (isS_1 he cs) hiS cs).2.2.2.1
        have hn : bsO fs q + tNf fs s.2.2.1 (x / 24) ≤ 65536 := hD.1.1.1.1.2.2.2.2.2.2.2.2.1
        have hsN : sN (tB fs s.2.2.1 (x / 24)) i < F := by unfold sN; omega
        obtain ⟨τ1, b1, b2, b3⟩ := k_rf_52 (F := F) (c := c) (k11 := f_Link_reachFrom_11 F c f) hF hW hx hq hiS cs _ 0 F τ u (Nat.zero_add _) hsN h
        rw [b1]
        exact next τ1 _ (by unfold cI; rw [if_pos ⟨cs, cw⟩]) b2 b3
      · rw [if_neg (show ¬ nI (oI (tB fs s.2.2.1 (x / 24)) i) = nI (x % 24) from fun z => cw ((nI_eq (by omega) (by omega)).mp z))]
        exact no (by unfold cI; rw [if_neg (fun z => cw z.2)])
    · rw [k_target0 hD (by omega) hcb hiS cs, xb_mk, bs, C8g3 p1, bs, p4, if_neg (show ¬ Int32.ofInt (-1) = nI (x % 24) from fun z => nI_m1 (by omega) z.symm)]
      exact no (by unfold cI; rw [if_neg (fun z => cs z.1)])
theorem k_reachFrom {x : Nat} {u : px_CQ} (hF : 65536 < F) (hW : WP s.2.2.1.length (tB fs s.2.2.1) s.2.1.1 xs) (hx : x < 24 * s.2.2.1.length) (h : RQs sk L own τ fs s xs u) : ∃ τ', f_Link_reachFrom F c 147 (some (152 + x)) (cH sk L τ) = some ((), cH sk L τ') ∧ RQs sk L own τ' fs s xs (cP (tB fs s.2.2.1) s.2.1.1 xs x u) ∧ frKr τ τ' := by
  have ht : x / 24 < s.2.2.1.length := by omega
  have hq := List.getElem?_eq_getElem ht
  obtain ⟨p1, p2, p3, p4⟩ := TKe_part h.1 hx
  have hS24 := (TKe_ys h.1 _ ht).2.1
  obtain ⟨τ', j1, j2, j3⟩ := k_rf_11 (F := F) (c := c) hF hW hx hq _ 0 F τ u (Nat.zero_add _) (by omega) h
  refine ⟨τ', ?_, j2, j3⟩
  unfold f_Link_reachFrom
  rw [bs, C8g0 p1, bs, p3, c_o (G147 h.1.1), bs, k_object h.1 hq, xb_mk]
  exact j1
end CRF
end
