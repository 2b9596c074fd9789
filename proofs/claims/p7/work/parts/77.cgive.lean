/-! give, wish, forget of the class -/
/-- nothing has changed but what the telling of a name changes; p is its cell -/
def frU (p : Nat) (τ τ' : px_TT) : Prop := (∀ a k, a ≠ p → a ≠ 1 → (a ≠ 140 ∨ k ≠ 2) → (a ≠ 143 ∨ k ≠ 2) → (a ≠ 146 ∨ k ≠ 3) → fI τ' a k = fI τ a k) ∧ (∀ a k, a ≠ p → (a ≠ 146 ∨ 2 < k) → fJ τ' a k = fJ τ a k) ∧ (∀ a k, a ≠ p → fN τ' a k = fN τ a k) ∧ (∀ a, eI τ' a = eI τ a) ∧ (∀ a, eJ τ' a = eJ τ a) ∧ (∀ a, a ≠ 141 → a ≠ 144 → eN τ' a = eN τ a)
section CGV
variable {F : Nat} {c : px_CT} {sk sk' : Nat → Nat × Nat × Nat} {L L' : Nat} {τ τ' : px_TT} {n k : Nat} {b : Nat → Nat} {own : Nat → Nat × Nat} {ws vs : List (List Nat)} {gs : List (List Nat × Int64)} {fs : List (Nat × (Nat → Nat))} {w : List Nat}
theorem CN_other {N A N' A' j p : Nat} (h : CN sk L τ N' A' ws) (e : EX sk L sk' L') (q : frQ N A j p τ τ') (hnp : NP sk' L' τ' own) (hp : eN τ' A j = some p) (hA : A = 141 ∨ A = 144 ∨ A = 149) (hA' : A' = 141 ∨ A' = 144 ∨ A' = 149) (hne : A' ≠ A) (hN : N' ≠ N) (hN' : N' < 1726) : CN sk' L' τ' N' A' ws := by
  obtain ⟨p1, p2, p3⟩ := hnp A j p hA hp
  refine CN_mv h e (q.2.2.1 N' 0 (by omega)) (q.1 N' 2 (by omega) (Or.inl hN)) (fun i _ => by rw [q.2.2.2.2.2.1 A' hne]) (fun i r _ hr => ?_)
  rw [← q.2.2.2.2.2.1 A' hne] at hr
  have h3 := (hnp A' i r hA' hr)
  have hrp : r ≠ p := by
    intro e1
    rw [e1, p3] at h3
    exact hne (congrArg Prod.fst h3.2.2).symm
  have h1 := h3.1
  have hN2 : r ≠ N ∨ 3 ≠ 2 := Or.inr (by decide)
  exact ⟨fun k _ => q.2.1 r k hrp, q.1 r 3 hrp hN2⟩
theorem CN_app {N A p : Nat} (h : CN sk L τ N A ws) (e : EX sk L sk' L') (q : frQ N A ws.length p τ τ') (hnp : NP sk' L' τ' own) (hp : eN τ' A ws.length = some p) (hA : A = 141 ∨ A = 144 ∨ A = 149) (hN' : N < 1726) (hl : ws.length < 16) (hw : isNm τ' p w) (hok : okN w) (h2 : fI τ' N 2 = nI (ws.length + 1)) : CN sk' L' τ' N A (ws ++ [w]) := by
  obtain ⟨p1, p2, p3⟩ := hnp A _ p hA hp
  obtain ⟨s1, s2, s3, s4, s5, s6, s7⟩ := h
  have hlen : (ws ++ [w]).length = ws.length + 1 := by rw [List.length_append]; rfl
  refine ⟨ob_ex s1 e, (q.2.2.1 N 0 (by omega)).trans s2, ar_ex s3 e, by omega, s5, by rw [hlen]; exact h2, fun i v hv => ?_⟩
  show okN v ∧ eN τ' A i = some ((eN τ' A i).getD 0) ∧ ob sk' L' 5 ((eN τ' A i).getD 0) ∧ isNm τ' ((eN τ' A i).getD 0) v
  by_cases ci : i < ws.length
  · rw [List.getElem?_append_left ci] at hv
    obtain ⟨a1, a2, a3, a4⟩ := s7 i v hv
    have e1 : eN τ' A i = eN τ A i := q.2.2.2.2.2.2 i (by omega)
    have hr : eN τ' A i = some ((eN τ A i).getD 0) := e1.trans a2
    have h3 := hnp A i _ hA hr
    have hrp : (eN τ A i).getD 0 ≠ p := by
      intro e2
      rw [e2, p3] at h3
      have := congrArg Prod.snd h3.2.2
      exact absurd this (by show ¬ ws.length = i; omega)
    rw [e1]
    exact ⟨a1, a2, ob_ex a3 e, isNm_mv a4 (fun k _ => q.2.1 _ k hrp) (q.1 _ 3 hrp (Or.inr (by decide)))⟩
  · have hi : i = ws.length := by
      have := (List.getElem?_eq_some_iff.mp hv).1
      omega
    rw [hi, List.getElem?_append_right (Nat.le_refl _), Nat.sub_self] at hv
    have hv2 : v = w := (Option.some.inj hv).symm
    rw [hi, hp, hv2]
    exact ⟨hok, rfl, p2, hw⟩
theorem SH_T (s : frT τ τ') : SH τ τ' := ⟨fun a k h => s.1 a k (by omega) (Or.inl (by omega)), fun a k h => s.2.1 a k (Or.inl (by omega)), fun a k _ => s.2.2.1 a k, fun a _ => s.2.2.2.2.2 a⟩
theorem SF_T (s : frT τ τ') : SF τ τ' := ⟨fun a k h _ => s.1 a k (by omega) (Or.inl (by omega)), fun a k _ => s.2.2.1 a k, fun a _ => s.2.2.2.1 a⟩
theorem gcd_0 (h : gcd' b n ws = 0) : tnm b n = true ∧ ws.length ≠ 16 ∧ idx (tk b 0 n) 0 ws = none := by
  unfold gcd' at h
  by_cases c1 : tnm b n = true
  · rw [if_pos c1] at h
    by_cases c2 : ws.length = 16 ∨ (idx (tk b 0 n) 0 ws).isSome = true
    · rw [if_pos c2] at h; cases h
    · refine ⟨c1, fun q => c2 (Or.inl q), ?_⟩
      cases e : idx (tk b 0 n) 0 ws with
      | none => rfl
      | some i => exact absurd (Or.inr (by rw [e]; rfl)) c2
  · rw [if_neg c1] at h; cases h
/-- what holds behind a name's entering -/
theorem k_tell {N A N' A' : Nat} {τ1 : px_TT} (hS : GS sk L) (hR1 : GR τ1) (ht1 : CTp τ1 0 (fun _ => 0)) (hT : frT τ τ1) (hnm : isNm τ1 146 w) (hok : okN w) (hF : 20 < F) (hn : NP sk L τ own) (hNA : (N = 140 ∧ A = 141 ∧ N' = 143 ∧ A' = 144) ∨ (N = 143 ∧ A = 144 ∧ N' = 140 ∧ A' = 141)) (h1 : CN sk L τ N A ws) (h2 : CN sk L τ N' A' vs) (hf : CF sk L τ fs) (hl : ws.length < 16) (hno : idx w 0 ws = none) (hr : RMk sk L (k + 1)) : ∃ sk' L' τ' own' p, f_Names_enter F c N (some 146) (cH sk L τ1) = some (some p, cH sk' L' τ') ∧ EX sk L sk' L' ∧ RMk sk' L' k ∧ GS sk' L' ∧ GR τ' ∧ CTp τ' 0 (fun _ => 0) ∧ CF sk' L' τ' fs ∧ NP sk' L' τ' own' ∧ CN sk' L' τ' N A (ws ++ [w]) ∧ CN sk' L' τ' N' A' vs ∧ ob sk' L' 5 p ∧ 1815 ≤ p ∧ eN τ' A ws.length = some p ∧ frU p τ τ' ∧ frQ N A ws.length p τ1 τ' := by
  have hA : A = 141 ∨ A = 144 ∨ A = 149 := by omega
  have hn1 : NP sk L τ1 own := NP_sh hn (SH_T hT)
  have c1 : CN sk L τ1 N A ws := CN_sh h1 (SH_T hT) hn (by omega) (by omega)
  have c2 : CN sk L τ1 N' A' vs := CN_sh h2 (SH_T hT) hn (by omega) (by omega)
  obtain ⟨sk', L', τ', own', p, g1, g2, g3, g4, g5, g6, g7, g8, g9, g10⟩ := k_enter (F := F) (c := c) hS c1 hn1 hA (by omega) (G146 hS) (by decide) hnm hok hl (by omega) hno hr
  refine ⟨sk', L', τ', own', p, g1, g2, g3, GS_ex hS g2, ?_, ?_, ?_, g4, CN_app c1 g2 g10 g4 g8 hA (by omega) hl g5 hok g9, CN_other c2 g2 g10 g4 g8 hA (by omega) (by omega) (by omega) (by omega), (g4 A _ p hA g8).2.1, g7, g8, ?_, g10⟩
  · exact GR_mv hR1 (fun a k h => g10.2.2.1 a k (by omega)) (fun a k h _ => g10.1 a k (by omega) (Or.inl (by omega))) (g10.2.2.2.2.2.1 9 (by omega)) (g10.2.2.2.2.2.1 151 (by omega))
  · unfold CTp
    rw [g10.1 1 1 (by omega) (Or.inl (by omega)), g10.2.2.2.1 2]
    exact ht1
  · refine CF_mv (CF_mv hf EX_refl (SF_T hT)) g2 ⟨fun a k h _ => g10.1 a k (by omega) (Or.inl (by omega)), fun a k h => g10.2.2.1 a k (by omega), fun a _ => g10.2.2.2.1 a⟩
  · refine ⟨?_, ?_, ?_, ?_, ?_, ?_⟩
    · intro a k a1 a2 a3 a4 a5
      rw [g10.1 a k a1 (by omega), hT.1 a k a2 a5]
    · intro a k a1 a2
      rw [g10.2.1 a k a1, hT.2.1 a k a2]
    · intro a k a1
      rw [g10.2.2.1 a k a1, hT.2.2.1 a k]
    · intro a; rw [g10.2.2.2.1 a, hT.2.2.2.1 a]
    · intro a; rw [g10.2.2.2.2.1 a, hT.2.2.2.2.1 a]
    · intro a a1 a2; rw [g10.2.2.2.2.2.1 a (by omega), hT.2.2.2.2.2 a]
theorem tk_ok (ht : CTp τ n b) (h : tnm b n = true) : okN (tk b 0 n) := by
  have hb : ∀ i, b i < 256 := fun i => by rw [← ht.2.2.2]; exact cb_lt _ _ _ _
  exact ⟨by rw [tk_len]; exact (tnm_n h).2.1, tk_lt hb 0 n⟩
theorem k_wish (hS : GS sk L) (hR : GR τ) (hF : 20 < F) (ht : CTp τ n b) (hf : CF sk L τ fs) (hn : NP sk L τ own) (hg : CG sk L τ gs) (hw : CW sk L τ ws) (hr : RMk sk L (k + 1)) (hz : gcd' b n ws = 0) : ∃ sk' L' τ' own' p, f_H_wish F c 0 (cH sk L τ) = some (nI (ws.length + 1), cH sk' L' τ') ∧ EX sk L sk' L' ∧ RMk sk' L' k ∧ GS sk' L' ∧ GR τ' ∧ CTp τ' 0 (fun _ => 0) ∧ CF sk' L' τ' fs ∧ NP sk' L' τ' own' ∧ CG sk' L' τ' gs ∧ CW sk' L' τ' (ws ++ [tk b 0 n]) ∧ 1815 ≤ p ∧ eN τ' 144 ws.length = some p ∧ frU p τ τ' := by
  obtain ⟨z1, z2, z3⟩ := gcd_0 hz
  have hl16 : ws.length ≤ 16 := hw.2.2.2.1
  have hl : ws.length < 16 := by omega
  obtain ⟨τ1, e1, e2, e3, e4, e5⟩ := k_readTapeName (F := F) (c := c) hS hR hF ht
  have hok := tk_ok ht z1
  obtain ⟨sk', L', τ', own', p, t1, t2, t3, t4, t5, t6, t7, t8, t9, t10, t11, t12, t13, t14, t15⟩ := k_tell (F := F) (c := c) hS e2 e3 e4 (e5 z1) hok hF hn (Or.inr ⟨rfl, rfl, rfl, rfl⟩) hw hg.1 hf hl z3 hr
  have c1 : CW sk L τ1 ws := CW_sh hw (SH_T e4) hn
  have g1 : CG sk L τ1 gs := CG_sh hg (SH_T e4) hn
  refine ⟨sk', L', τ', own', p, ?_, t2, t3, t4, t5, t6, t7, t8, ⟨t10, ?_⟩, t9, t12, t13, t14⟩
  · unfold f_H_wish
    rw [c_o (G0 hS), bs, e1, xb_mk, if_neg (show ¬ bI (tnm b n) = 0 by rw [z1]; decide), C0r9 (G0 hS) (R0_9 e2), bs, C0r10 (G0 hS) (R0_10 e2), bs, c_o (G143 hS), bs, k_find c1 (G146 hS) (e5 z1) hok (by omega), xb_mk, z3]
    show ((xgR (cH sk L τ1) 0 9 0).bind _) = _
    rw [C0r9 (G0 hS) (R0_9 e2), bs, C6g2 (G143 hS), bs, c1.2.2.2.2.2.1, if_pos (nI_lt hl (by decide)), bs, C0r10 (G0 hS) (R0_10 e2), bs, c_o (G143 hS), bs, t1, xb_mk, bs, C0r9 (G0 t4) (R0_9 t5), bs, C6g2 (G143 t4), bs, t9.2.2.2.2.2.1, List.length_append]
    rfl
  · intro i x hx
    have hm : (gs.map Prod.fst)[i]? = some x.1 := by rw [List.getElem?_map, hx]; rfl
    have hp : eN τ1 141 i = some ((eN τ1 141 i).getD 0) := (g1.1.2.2.2.2.2.2 i _ hm).2.1
    have he : eN τ' 141 = eN τ1 141 := t15.2.2.2.2.2.1 141 (by decide)
    have ho := (t8 141 i _ (Or.inl rfl) (by rw [he]; exact hp)).2.2
    have ho2 := (t8 144 _ p (Or.inr (Or.inl rfl)) t13).2.2
    have hne : (eN τ1 141 i).getD 0 ≠ p := by
      intro q
      rw [q, ho2] at ho
      exact absurd (show (144 : Nat) = 141 from congrArg Prod.fst ho) (by decide)
    rw [he, t15.2.1 _ 7 hne]
    exact g1.2 i x hx
theorem k_give {v : Int64} (hS : GS sk L) (hR : GR τ) (hF : 20 < F) (ht : CTp τ n b) (hf : CF sk L τ fs) (hn : NP sk L τ own) (hg : CG sk L τ gs) (hw : CW sk L τ ws) (hr : RMk sk L (k + 1)) (hz : gcd' b n (gs.map Prod.fst) = 0) : ∃ sk' L' τ' own' p, f_H_give F c 0 v (cH sk L τ) = some (nI (gs.length + 1), cH sk' L' τ') ∧ EX sk L sk' L' ∧ RMk sk' L' k ∧ GS sk' L' ∧ GR τ' ∧ CTp τ' 0 (fun _ => 0) ∧ CF sk' L' τ' fs ∧ NP sk' L' τ' own' ∧ CG sk' L' τ' (gs ++ [(tk b 0 n, v)]) ∧ CW sk' L' τ' ws ∧ 1815 ≤ p ∧ eN τ' 141 gs.length = some p ∧ frU p τ τ' := by
  obtain ⟨z1, z2, z3⟩ := gcd_0 hz
  have hlm : (gs.map Prod.fst).length = gs.length := List.length_map _
  have hl16 : (gs.map Prod.fst).length ≤ 16 := hg.1.2.2.2.1
  have hl : (gs.map Prod.fst).length < 16 := by omega
  obtain ⟨τ1, e1, e2, e3, e4, e5⟩ := k_readTapeName (F := F) (c := c) hS hR hF ht
  have hok := tk_ok ht z1
  obtain ⟨sk', L', τ2, own', p, t1, t2, t3, t4, t5, t6, t7, t8, t9, t10, t11, t12, t13, t14, t15⟩ := k_tell (F := F) (c := c) hS e2 e3 e4 (e5 z1) hok hF hn (Or.inl ⟨rfl, rfl, rfl, rfl⟩) hg.1 hw hf hl z3 hr
  have g1 : CG sk L τ1 gs := CG_sh hg (SH_T e4) hn
  obtain ⟨τ', hτ'⟩ : ∃ x, x = tJ τ2 p 7 v := ⟨_, rfl⟩
  have hJ : ∀ a k, (a ≠ p ∨ k ≠ 7) → fJ τ' a k = fJ τ2 a k := fun a k h => by rw [hτ']; exact tJ_ne h
  have hJp : fJ τ' p 7 = v := by rw [hτ']; exact tJ_at
  have hI : ∀ a k, fI τ' a k = fI τ2 a k := fun a k => by rw [hτ']; rfl
  have hN : ∀ a k, fN τ' a k = fN τ2 a k := fun a k => by rw [hτ']; rfl
  have hE : ∀ a, eN τ' a = eN τ2 a := fun a => by rw [hτ']; rfl
  have hEI : ∀ a, eI τ' a = eI τ2 a := fun a => by rw [hτ']; rfl
  have hEJ : ∀ a, eJ τ' a = eJ τ2 a := fun a => by rw [hτ']; rfl
  have mv : ∀ {N A : Nat} {vs : List (List Nat)}, CN sk' L' τ2 N A vs → CN sk' L' τ' N A vs := fun h => CN_mv h EX_refl (hN _ _) (hI _ _) (fun i _ => by rw [hE]) (fun i q _ _ => ⟨fun k hk => hJ q k (Or.inr (by omega)), hI q 3⟩)
  refine ⟨sk', L', τ', own', p, ?_, t2, t3, t4, ?_, ?_, ?_, ?_, ⟨?_, ?_⟩, mv t10, t12, ?_, ?_⟩
  · unfold f_H_give
    rw [c_o (G0 hS), bs, e1, xb_mk, if_neg (show ¬ bI (tnm b n) = 0 by rw [z1]; decide), C0r8 (G0 hS) (R0_8 e2), bs, C0r10 (G0 hS) (R0_10 e2), bs, c_o (G140 hS), bs, k_find g1.1 (G146 hS) (e5 z1) hok (by omega), xb_mk, z3]
    show ((xgR (cH sk L τ1) 0 8 0).bind _) = _
    rw [C0r8 (G0 hS) (R0_8 e2), bs, C6g2 (G140 hS), bs, g1.1.2.2.2.2.2.1, if_pos (nI_lt hl (by decide)), bs, C0r10 (G0 hS) (R0_10 e2), bs, c_o (G140 hS), bs, t1, xb_mk, bs, C5p7 t11, bs, ← hτ', C0r8 (G0 t4) ((hN 0 8).trans (R0_8 t5)), bs, C6g2 (G140 t4), bs, hI, t9.2.2.2.2.2.1, List.length_append, hlm]
    rfl
  · exact GR_mv t5 (fun a k _ => hN a k) (fun a k _ _ => hI a k) (hE 9) (hE 151)
  · unfold CTp
    rw [hI, hEI]; exact t6
  · exact CF_mv t7 EX_refl ⟨fun a k _ _ => hI a k, fun a k _ => hN a k, fun a _ => hEI a⟩
  · intro A i q hA hq
    rw [hE] at hq
    exact t8 A i q hA hq
  · rw [List.map_append]
    exact mv t9
  · intro i x hx
    rw [hE]
    by_cases ci : i < gs.length
    · rw [List.getElem?_append_left ci] at hx
      have hm : (gs.map Prod.fst)[i]? = some x.1 := by rw [List.getElem?_map, hx]; rfl
      have hp : eN τ1 141 i = some ((eN τ1 141 i).getD 0) := (g1.1.2.2.2.2.2.2 i _ hm).2.1
      have he : eN τ2 141 i = eN τ1 141 i := t15.2.2.2.2.2.2 i (by omega)
      have ho := (t8 141 i _ (Or.inl rfl) (by rw [he]; exact hp)).2.2
      have ho2 := (t8 141 _ p (Or.inl rfl) t13).2.2
      have hne : (eN τ1 141 i).getD 0 ≠ p := by
        intro q
        rw [q, ho2] at ho
        have := congrArg Prod.snd ho
        exact absurd this (by show ¬ (gs.map Prod.fst).length = i; omega)
      rw [he, hJ _ _ (Or.inl hne), t15.2.1 _ 7 hne]
      exact g1.2 i x hx
    · have hi : i = gs.length := by
        have := (List.getElem?_eq_some_iff.mp hx).1
        rw [List.length_append] at this
        have h1 : [(tk b 0 n, v)].length = 1 := rfl
        omega
      rw [hi, List.getElem?_append_right (Nat.le_refl _), Nat.sub_self] at hx
      have hx2 : x = (tk b 0 n, v) := (Option.some.inj hx).symm
      rw [hi, ← hlm, t13, hx2]
      exact hJp
  · rw [hE, ← hlm]; exact t13
  · refine ⟨fun a k a1 a2 a3 a4 a5 => (hI a k).trans (t14.1 a k a1 a2 a3 a4 a5), fun a k a1 a2 => (hJ a k (Or.inl a1)).trans (t14.2.1 a k a1 a2), fun a k a1 => (hN a k).trans (t14.2.2.1 a k a1), fun a => (hEI a).trans (t14.2.2.2.1 a), fun a => (hEJ a).trans (t14.2.2.2.2.1 a), fun a a1 a2 => (hE a).trans (t14.2.2.2.2.2 a a1 a2)⟩
theorem CN_nil {N A : Nat} (h : CN sk L τ N A ws) (hN0 : fN τ' N 0 = fN τ N 0) (h2 : fI τ' N 2 = nI 0) : CN sk L τ' N A [] := by
  obtain ⟨s1, s2, s3, s4, s5, s6, s7⟩ := h
  exact ⟨s1, hN0.trans s2, s3, Nat.zero_le _, s5, h2, fun i w hw => by rw [List.getElem?_nil] at hw; cases hw⟩
theorem k_forget (hS : GS sk L) (hR : GR τ) (hg : CG sk L τ gs) (hw : CW sk L τ ws) : ∃ τ', f_H_forget F c 0 (cH sk L τ) = some ((), cH sk L τ') ∧ GR τ' ∧ CG sk L τ' [] ∧ CW sk L τ' [] ∧ (∀ a k, (a ≠ 140 ∨ k ≠ 2) → (a ≠ 143 ∨ k ≠ 2) → fI τ' a k = fI τ a k) ∧ τ'.2 = τ.2 := by
  have hR1 : GR (tI τ 140 2 (nI 0)) := GR_I hR (by omega)
  refine ⟨tI (tI τ 140 2 (nI 0)) 143 2 (nI 0), ?_, GR_I hR1 (by omega), ⟨?_, ?_⟩, ?_, ?_, rfl⟩
  · unfold f_H_forget
    rw [C0r8 (G0 hS) (R0_8 hR), bs, C6p2 (G140 hS), bs, C0r9 (G0 hS) (R0_9 hR1), bs, C6p2 (G143 hS), bs]
  · exact CN_nil hg.1 rfl ((tI_ne (Or.inl (by decide))).trans tI_at)
  · intro i x hx; rw [List.getElem?_nil] at hx; cases hx
  · exact CN_nil hw rfl tI_at
  · intro a k h1 h2
    rw [tI_ne h2, tI_ne h1]
end CGV
