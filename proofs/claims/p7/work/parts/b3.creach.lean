/-! what is reached, in the class -/
abbrev px_CQ : Type := (Nat → Bool) × (Nat → Bool) × List Nat
def cs1 (x : Option Nat) (s : px_CQ) : px_CQ := match x with
  | none => s
  | some y => if s.1 y = true then s else (bup s.1 y, s.2.1, s.2.2 ++ [y])
def cn1 (x : Option Nat) (s : px_CQ) : px_CQ := match x with
  | none => s
  | some n => (s.1, bup s.2.1 n, s.2.2)
def frKr (τ τ' : px_TT) : Prop := (∀ a k, a < 1815 → (a < 152 ∨ 1688 ≤ a ∨ k ≠ 9) → (a ≠ 147 ∨ k ≠ 16) → fI τ' a k = fI τ a k) ∧ (∀ a k, 1815 ≤ a → k ≠ 13 → fI τ' a k = fI τ a k) ∧ (∀ a k, fJ τ' a k = fJ τ a k) ∧ (∀ a k, fN τ' a k = fN τ a k) ∧ (∀ a, eI τ' a = eI τ a) ∧ (∀ a, eJ τ' a = eJ τ a) ∧ ∀ a, a ≠ 1694 → eN τ' a = eN τ a
theorem frKr_refl {τ : px_TT} : frKr τ τ := ⟨fun _ _ _ _ _ => rfl, fun _ _ _ _ => rfl, fun _ _ => rfl, fun _ _ => rfl, fun _ => rfl, fun _ => rfl, fun _ _ => rfl⟩
theorem frKr_trans {τ τ1 τ2 : px_TT} (h : frKr τ τ1) (g : frKr τ1 τ2) : frKr τ τ2 := ⟨fun a k x y z => (g.1 a k x y z).trans (h.1 a k x y z), fun a k x y => (g.2.1 a k x y).trans (h.2.1 a k x y), fun a k => (g.2.2.1 a k).trans (h.2.2.1 a k), fun a k => (g.2.2.2.1 a k).trans (h.2.2.2.1 a k), fun a => (g.2.2.2.2.1 a).trans (h.2.2.2.2.1 a), fun a => (g.2.2.2.2.2.1 a).trans (h.2.2.2.2.2.1 a), fun a x => (g.2.2.2.2.2.2 a x).trans (h.2.2.2.2.2.2 a x)⟩
section CRC
variable {F : Nat} {c : px_CT} {sk : Nat → Nat × Nat × Nat} {L : Nat} {τ τ' : px_TT} {own : Nat → Nat × Nat} {fs : px_FS} {s : px_TK} {xs : px_NL} {ST ST' rn rn' : Nat → Bool} {gs : List (List Nat × Int64)} {ws : List (List Nat)} {u : px_CQ}
theorem GR_Kr (h : GR τ) (f : frKr τ τ') : GR τ' := GR_mv h (fun a k _ => f.2.2.2.1 a k) (fun a k ha hk => f.1 a k (by omega) (by omega) (Or.inl (by omega))) (f.2.2.2.2.2.2 9 (by decide)) (f.2.2.2.2.2.2 151 (by decide))
theorem SF_Kr (f : frKr τ τ') : SF τ τ' := ⟨fun a k h hk => f.1 a k (by omega) (by omega) (Or.inl (by omega)), fun a k h => f.2.2.2.1 a k, fun a _ => f.2.2.2.2.1 a⟩
theorem CN_Kr {N' A : Nat} (h : CN sk L τ N' A ws) (hn : NP sk L τ own) (f : frKr τ τ') (hN : N' = 140 ∨ N' = 143) (hA : A = 141 ∨ A = 144) : CN sk L τ' N' A ws := by
  obtain ⟨s1, s2, s3, s4, s5, s6, s7⟩ := h
  have eA : eN τ' A = eN τ A := f.2.2.2.2.2.2 A (by omega)
  refine ⟨s1, (f.2.2.2.1 N' 0).trans s2, s3, s4, s5, (f.1 N' 2 (by omega) (by omega) (Or.inl (by omega))).trans s6, fun i w hw => ?_⟩
  obtain ⟨z1, z2, z3, z4⟩ := s7 i w hw
  have hz := (hn A i _ (by omega) z2).1
  rw [eA]
  exact ⟨z1, z2, z3, (f.2.2.1 _ 0).trans z4.1, (f.2.2.1 _ 1).trans z4.2.1, (f.2.2.1 _ 2).trans z4.2.2.1, (f.2.1 _ 3 hz (by decide)).trans z4.2.2.2⟩
theorem CG_Kr (h : CG sk L τ gs) (hn : NP sk L τ own) (f : frKr τ τ') : CG sk L τ' gs := by
  refine ⟨CN_Kr h.1 hn f (Or.inl rfl) (Or.inl rfl), fun i x hx => ?_⟩
  rw [f.2.2.2.2.2.2 141 (by decide), f.2.2.1]
  exact h.2 i x hx
theorem CW_Kr (h : CW sk L τ ws) (hn : NP sk L τ own) (f : frKr τ τ') : CW sk L τ' ws := CN_Kr h hn f (Or.inr rfl) (Or.inr rfl)
theorem TKe_Kr (h : TKe sk L own τ fs s xs ST rn) (f : frKr τ τ') (h9 : ∀ x, x < 24 * s.2.2.1.length → fI τ' (152 + x) 9 = bI (ST' x)) (h13 : ∀ (i : Nat) (x : List Nat × px_NR), xs[i]? = some x → x.2.1 = 2 → fI τ' (pN τ 149 i) 13 = bI (rn' i)) : TKe sk L own τ' fs s xs ST' rn' := by
  obtain ⟨h1, h2, h3, ⟨k1, k2, k3, k4⟩, h5, h6, h7⟩ := h
  have hT := BK_T (s := s) h5.1
  have hge : ∀ i, i < xs.length → 1815 ≤ pN τ 149 i := fun i hi => (k1 149 i _ (Or.inr (Or.inr rfl)) (CLm_at k2 (List.getElem?_eq_getElem hi)).2.1).1
  refine ⟨h1, GR_Kr h2 f, CF_mv h3 EX_refl (SF_Kr f), ⟨NP_fx k1 (fun A hA => f.2.2.2.2.2.2 A (by omega)), CLm_fx k2 EX_refl (fun i hi k hk => f.2.1 _ k (hge i hi) (by omega)) h13 (fun i hi k _ => f.2.2.1 _ k) (fun i hi => f.2.2.2.1 _ 6) ⟨f.2.2.2.1 148 0, f.1 148 2 (by decide) (by decide) (Or.inl (by decide))⟩ (f.1 147 15 (by decide) (by decide) (Or.inr (by decide))) (f.2.2.2.2.2.2 149 (by decide)) (f.2.2.2.2.2.2 1693 (by decide)), (f.1 147 14 (by decide) (by decide) (Or.inr (by decide))).trans k3, fun t q hq => ?_⟩, h5, h6, h7⟩
  have ht := (List.getElem?_eq_some_iff.mp hq).1
  obtain ⟨r1, r2, r3⟩ := k4 t q hq
  refine ⟨fun i hi => isPe_fx (r1 i hi) (fun k _ k9 => f.1 _ k (by omega) (by omega) (Or.inl (by omega))) (h9 _ (by omega)), RSy_fx r2 (f.2.2.2.2.2.2 149 (by decide)) (fun k _ => by rw [f.2.2.2.2.2.2 1692 (by decide)]), by rw [f.2.2.2.2.2.2 1689 (by decide)]; exact r3⟩
/-- parts reached, names reached, the queue -/
def RQs (sk : Nat → Nat × Nat × Nat) (L : Nat) (own : Nat → Nat × Nat) (τ : px_TT) (fs : px_FS) (s : px_TK) (xs : px_NL) (u : px_CQ) : Prop := TKe sk L own τ fs s xs u.1 u.2.1 ∧ fI τ 147 16 = nI u.2.2.length ∧ (∀ (i x : Nat), u.2.2[i]? = some x → eN τ 1694 i = some (152 + x)) ∧ u.2.2.Nodup ∧ (∀ x, u.1 x = true ↔ x ∈ u.2.2) ∧ ∀ x, x ∈ u.2.2 → x < 24 * s.2.2.1.length
theorem TKe_part (h : TKe sk L own τ fs s xs ST rn) {x : Nat} (hx : x < 24 * s.2.2.1.length) : ob sk L 8 (152 + x) ∧ fI τ (152 + x) 9 = bI (ST x) ∧ fI τ (152 + x) 0 = nI (x / 24) ∧ fI τ (152 + x) 3 = nI (x % 24) := by
  have hT := BK_T (s := s) h.2.2.2.2.1.1
  have ht : x / 24 < s.2.2.1.length := by omega
  obtain ⟨r1, _, _⟩ := h.2.2.2.1.2.2.2 (x / 24) _ (List.getElem?_eq_getElem ht)
  have := r1 (x % 24) (by omega)
  rw [show 24 * (x / 24) + x % 24 = x by omega] at this
  exact ⟨G_part h.1 (by omega), this.2.2.2.2.1, this.1.1, this.2.1⟩
theorem k_reachPart {y : Option Nat} (h : RQs sk L own τ fs s xs u) (hy : ∀ x, y = some x → x < 24 * s.2.2.1.length) : ∃ τ', f_Link_reachPart F c 147 (y.map (fun x => 152 + x)) (cH sk L τ) = some ((), cH sk L τ') ∧ RQs sk L own τ' fs s xs (cs1 y u) ∧ frKr τ τ' := by
  obtain ⟨h1, h2, h3, h4, h5, h6⟩ := id h
  unfold f_Link_reachPart f_Link_reachPart_48
  cases y with
  | none => exact ⟨τ, rfl, h, frKr_refl⟩
  | some x =>
    have hx := hy x rfl
    obtain ⟨p1, p2, p3, p4⟩ := TKe_part h1 hx
    have hT := BK_T (s := s) h1.2.2.2.2.1.1
    have hS := h1.1
    have o147 := G147 hS
    show ∃ τ', ((xgI (cH sk L τ) 8 9 (152 + x)).bind _) = _ ∧ RQs sk L own τ' fs s xs (if u.1 x = true then u else (bup u.1 x, u.2.1, u.2.2 ++ [x])) ∧ _
    rw [C8g9 p1, bs, p2]
    cases e : u.1 x with
    | true =>
      rw [if_neg (show ¬ bI true = 0 by decide), if_pos rfl]
      exact ⟨τ, rfl, h, frKr_refl⟩
    | false =>
      have hnx : x ∉ u.2.2 := fun q => by have := (h5 x).mpr q; rw [e] at this; cases this
      have hnd : (u.2.2 ++ [x]).Nodup := List.nodup_append.mpr ⟨h4, List.Pairwise.cons (fun _ h => nomatch h) List.Pairwise.nil, fun a ha b' hb' e => by
        rw [List.mem_singleton] at hb'
        rw [e, hb'] at ha
        exact hnx ha⟩
      have hln : (u.2.2 ++ [x]).length ≤ 1536 := nodup_le 0 1536 _ hnd (fun z hz => by
        rcases List.mem_append.mp hz with q | q
        · have := h6 z q
          omega
        · rw [List.mem_singleton] at q
          omega)
      rw [List.length_append, List.length_singleton] at hln
      rw [if_pos (show bI false = 0 from rfl), if_neg (show ¬ false = true by decide), C3g16 o147, bs, h2, C3r10 o147 (GR_r (v := 1694) h1.2.1 (by decide)), bs, c_l (G1694 hS) (by decide), bs, if_neg (nI_ge (by omega) (by omega)), show xpZ _ 8 9 (152 + x) (nI 1) = _ from C8z9 p1 true, bs]
      obtain ⟨τ1, hτ1⟩ : ∃ z, z = tI τ (152 + x) 9 (bI true) := ⟨_, rfl⟩
      have e16 : fI τ1 147 16 = nI u.2.2.length := by rw [hτ1]; exact (tI_ne (Or.inl (by omega))).trans h2
      have r10 : fN τ1 147 10 = some 1694 := by rw [hτ1]; show fN τ 147 10 = some 1694; exact GR_r h1.2.1 (by decide)
      rw [← hτ1, C3r10 o147 r10, bs, C3g16 o147, bs, e16, c_sO (G1694 hS) (by decide) (by decide) (show u.2.2.length < 1536 by omega) p1, bs]
      obtain ⟨τ2, hτ2⟩ : ∃ z, z = vN τ1 1694 (va_up (eN τ1 1694) u.2.2.length (some (152 + x))) := ⟨_, rfl⟩
      rw [← hτ2, C3g16 o147, bs, show fI τ2 147 16 = nI u.2.2.length by rw [hτ2]; exact e16, nI_add, C3p16 o147, bs]
      obtain ⟨τ3, hτ3⟩ : ∃ z, z = tI τ2 147 16 (nI (u.2.2.length + 1)) := ⟨_, rfl⟩
      rw [← hτ3]
      have eI3 : ∀ a k, (a ≠ 152 + x ∨ k ≠ 9) → (a ≠ 147 ∨ k ≠ 16) → fI τ3 a k = fI τ a k := fun a k q1 q2 => by
        rw [hτ3, tI_ne q2, hτ2]
        show fI τ1 a k = _
        rw [hτ1, tI_ne q1]
      have eN3 : ∀ a, a ≠ 1694 → eN τ3 a = eN τ a := fun a ha => by
        rw [hτ3, hτ2]
        show u1 τ1.2.2.2.2.2 1694 _ a = _
        rw [u1_ne ha, hτ1]; rfl
      have eN31 : eN τ3 1694 = va_up (eN τ 1694) u.2.2.length (some (152 + x)) := by
        rw [hτ3, hτ2, hτ1]
        exact (u1_eq : u1 τ.2.2.2.2.2 1694 _ 1694 = _)
      have f3 : frKr τ τ3 := ⟨fun a k _ q1 q2 => eI3 a k (by omega) q2, fun a k q1 _ => eI3 a k (by omega) (by omega), fun a k => by rw [hτ3, hτ2, hτ1]; rfl, fun a k => by rw [hτ3, hτ2, hτ1]; rfl, fun a => by rw [hτ3, hτ2, hτ1]; rfl, fun a => by rw [hτ3, hτ2, hτ1]; rfl, eN3⟩
      refine ⟨τ3, rfl, ⟨TKe_Kr h1 f3 (fun z hz => ?_) (fun i y hy e2 => ?_), ?_, fun i z hz => ?_, hnd, fun z => ?_, fun z hz => ?_⟩, f3⟩
      · show _ = bI (bup u.1 x z)
        unfold bup
        by_cases cz : z = x
        · rw [if_pos cz, cz, hτ3, tI_ne (Or.inl (by omega)), hτ2]
          show fI τ1 (152 + x) 9 = _
          rw [hτ1, tI_at]
        · rw [if_neg cz, eI3 _ _ (Or.inl (by omega)) (Or.inl (by omega))]
          exact (TKe_part h1 hz).2.1
      · have hi := (List.getElem?_eq_some_iff.mp hy).1
        have hge := (h1.2.2.2.1.1 149 i _ (Or.inr (Or.inr rfl)) (CLm_at h1.2.2.2.1.2.1 hy).2.1).1
        rw [eI3 _ _ (Or.inl (by omega)) (Or.inl (by omega))]
        exact (h1.2.2.2.1.2.1.2.1 i y hy).2 e2
      · show _ = nI (u.2.2 ++ [x]).length
        rw [hτ3, tI_at, List.length_append, List.length_singleton]
      · have hz : (u.2.2 ++ [x])[i]? = some z := hz
        rw [eN31]
        by_cases ci : i < u.2.2.length
        · rw [List.getElem?_append_left ci] at hz
          rw [va_up_n (by omega)]
          exact h3 i z hz
        · have ei : i = u.2.2.length := by
            have := (List.getElem?_eq_some_iff.mp hz).1
            rw [List.length_append, List.length_singleton] at this
            omega
          rw [ei, List.getElem?_append_right (Nat.le_refl _), Nat.sub_self] at hz
          have hz : x = z := Option.some.inj hz
          rw [ei, va_up_a, hz]
      · show bup u.1 x z = true ↔ z ∈ u.2.2 ++ [x]
        unfold bup
        rw [List.mem_append, List.mem_singleton]
        by_cases cz : z = x
        · rw [if_pos cz]; exact ⟨fun _ => Or.inr cz, fun _ => rfl⟩
        · rw [if_neg cz]
          exact ⟨fun q => Or.inl ((h5 z).mp q), fun q => q.elim (fun q => (h5 z).mpr q) (fun q => absurd q cz)⟩
      · have hz : z ∈ u.2.2 ++ [x] := hz
        rcases List.mem_append.mp hz with q | q
        · exact h6 z q
        · rw [List.mem_singleton] at q
          rw [q]; exact hx
end CRC
