/-! the commons, laid out by the class -/
def fr14 (τ τ' : px_TT) : Prop := (∀ a k, fI τ' a k = fI τ a k) ∧ (∀ a k, a < 1815 → (a ≠ 1700 ∨ k ≠ 15) → fJ τ' a k = fJ τ a k) ∧ (∀ a k, 1815 ≤ a → k ≠ 14 → fJ τ' a k = fJ τ a k) ∧ (∀ a k, fN τ' a k = fN τ a k) ∧ (∀ a, eI τ' a = eI τ a) ∧ (∀ a, eJ τ' a = eJ τ a) ∧ ∀ a, eN τ' a = eN τ a
theorem fr14_refl {τ : px_TT} : fr14 τ τ := ⟨fun _ _ => rfl, fun _ _ _ _ => rfl, fun _ _ _ _ => rfl, fun _ _ => rfl, fun _ => rfl, fun _ => rfl, fun _ => rfl⟩
theorem fr14_trans {τ τ1 τ2 : px_TT} (h : fr14 τ τ1) (g : fr14 τ1 τ2) : fr14 τ τ2 := ⟨fun a k => (g.1 a k).trans (h.1 a k), fun a k x y => (g.2.1 a k x y).trans (h.2.1 a k x y), fun a k x y => (g.2.2.1 a k x y).trans (h.2.2.1 a k x y), fun a k => (g.2.2.2.1 a k).trans (h.2.2.2.1 a k), fun a => (g.2.2.2.2.1 a).trans (h.2.2.2.2.1 a), fun a => (g.2.2.2.2.2.1 a).trans (h.2.2.2.2.2.1 a), fun a => (g.2.2.2.2.2.2 a).trans (h.2.2.2.2.2.2 a)⟩
theorem fr14_Ly {τ τ' : px_TT} (f : fr14 τ τ') : frLy τ τ' := ⟨fun a k _ _ _ => f.1 a k, fun a k _ _ _ => f.1 a k, fun a k x _ y _ => f.2.1 a k x (Or.inl y), fun a k x y => f.2.2.1 a k x y, f.2.2.2.1, fun a _ => f.2.2.2.2.1 a, fun a _ => f.2.2.2.2.2.1 a, fun a _ => f.2.2.2.2.2.2 a⟩
section CCM
variable {F : Nat} {c : px_CT} {sk : Nat → Nat × Nat × Nat} {L : Nat} {own : Nat → Nat × Nat} {fs : px_FS} {s : px_TK} {xs : px_NL} {ST rn : Nat → Bool} {th on : Bool} {rn0 : Nat → Bool}
theorem bsV_le {o : Option Nat} (h : ∀ v, o = some v → v < 2 ^ 40) : (lN 0 ≤ bsV o) ↔ o.isSome = true := by
  cases o with
  | none => exact ⟨fun w => absurd w (by decide), fun w => nomatch w⟩
  | some v =>
    have := h v rfl
    exact ⟨fun _ => rfl, fun _ => (pk_lLE (a := 0) (b := v) (by decide) (by omega)).mpr (Nat.zero_le _)⟩
theorem k_ld_111 (hF : 65536 < F) (hok : okL xs) (hcm : cmOK xs) (hcq : AL cmQ xs) (hrn : ∀ i, rn i = (!on || rn0 i)) : ∀ (d P f : Nat) (τ : px_TT) (G : px_PG), P + d = s.1.2.2.1.length → d < f → TKe sk L own τ fs s xs ST rn → eI τ 1703 2 = bI th → fJ τ 1700 15 = bsV G.2.2 → G.1 + d * 20480 < 2 ^ 40 → (∀ v, G.2.2 = some v → v < 2 ^ 40) → (∀ n, n ∈ s.1.2.2.1.take P → cB xs on rn0 n = true → fJ τ (pN τ 149 n) 14 = lN (G.2.1 n)) → ∃ τ', f_Layout_layData_111 F c f 1700 (lN G.1) (nI P) (cH sk L τ) = f_Layout_layData_212 F c 1700 (lN ((s.1.2.2.1.drop P).foldl (pc1 xs on rn0 th) G).1) (cH sk L τ') ∧ fJ τ' 1700 15 = bsV ((s.1.2.2.1.drop P).foldl (pc1 xs on rn0 th) G).2.2 ∧ (∀ n, n ∈ s.1.2.2.1 → cB xs on rn0 n = true → fJ τ' (pN τ 149 n) 14 = lN (((s.1.2.2.1.drop P).foldl (pc1 xs on rn0 th) G).2.1 n)) ∧ fr14 τ τ' := by
  intro d
  induction d with
  | zero =>
    intro P f τ G hP hf h ht h15 hb hv hA
    obtain ⟨f, rfl⟩ : ∃ x, f = x + 1 := ⟨f - 1, by omega⟩
    have hol := h.2.2.2.2.1.1.2.2.2.1
    have hT := BK_T (s := s) h.2.2.2.2.1.1
    rw [List.drop_of_length_le (by omega)]
    refine ⟨τ, ?_, h15, fun n hn => hA n (by rw [List.take_of_length_le (by omega)]; exact hn), fr14_refl⟩
    unfold f_Layout_layData_111
    rw [C2r0 (G1700 h.1) (GR_r (v := 147) h.2.1 (by decide)), bs, C3g15 (G147 h.1), bs, h.2.2.2.1.2.1.2.2.1, if_pos (nI_le (by omega) (by omega))]
    rfl
  | succ d ih =>
    intro P f τ G hP hf h ht h15 hb hv hA
    obtain ⟨f, rfl⟩ : ∃ x, f = x + 1 := ⟨f - 1, by omega⟩
    have hol := h.2.2.2.2.1.1.2.2.2.1
    have hT := BK_T (s := s) h.2.2.2.2.1.1
    have hS := h.1
    have hR := h.2.1
    have o := G1700 hS
    have hPl : P < s.1.2.2.1.length := by omega
    have hx := List.getElem?_eq_getElem hPl
    have hdr : s.1.2.2.1.drop P = s.1.2.2.1[P] :: s.1.2.2.1.drop (P + 1) := List.drop_eq_getElem_cons hPl
    have htk : s.1.2.2.1.take (P + 1) = s.1.2.2.1.take P ++ [s.1.2.2.1[P]] := by rw [List.take_succ, hx]; rfl
    generalize s.1.2.2.1[P] = D at hx hdr htk
    obtain ⟨q1, q2⟩ := h.2.2.2.1.2.1.2.2.2 P D hx
    obtain ⟨k1, k2, k3, k4, k5⟩ := k_laid (F := F) (c := c) h hok q1
    have ecB : cB xs on rn0 D = (decide (stN xs D = 2) && rn D) := by unfold cB; rw [hrn D]
    rw [hdr, List.foldl_cons]
    unfold f_Layout_layData_111 f_Layout_layData_206
    rw [C2r0 o (GR_r (v := 147) hR (by decide)), bs, C3g15 (G147 hS), bs, h.2.2.2.1.2.1.2.2.1, if_neg (nI_ge hPl (by omega)), bs, c_o (G147 hS), bs, k_definedAt h hx, xb_mk, k1, xb_mk, nI_add, ← ecB]
    cases e : cB xs on rn0 D with
    | false =>
      have ep : pc1 xs on rn0 th G D = G := by unfold pc1; rw [if_neg (by rw [e]; decide)]
      rw [if_pos (show bI false = 0 from rfl), ep]
      exact ih (P + 1) f τ G (by omega) (by omega) h ht h15 (Nat.lt_of_le_of_lt (Nat.add_le_add_left (Nat.mul_le_mul_right _ (Nat.le_succ d)) _) hb) hv (fun n hn hc => by
        rw [htk] at hn
        rcases List.mem_append.mp hn with w | w
        · exact hA n w hc
        · rw [List.mem_singleton] at w
          rw [w, e] at hc
          cases hc)
    | true =>
      have hst : stN xs D = 2 := of_decide_eq_true ((Bool.and_eq_true _ _).mp (by rw [← ecB]; exact e)).1
      obtain ⟨⟨c1, c2⟩, c3⟩ := hcm D q1 hst
      obtain ⟨j8, j7⟩ := k3 hst
      obtain ⟨A, hA1⟩ : ∃ A, A = pcA xs th G.1 D := ⟨_, rfl⟩
      have ep : pc1 xs on rn0 th G D = (A + cmZ xs D, fun y => if y = D then A else G.2.1 y, some (G.2.2.getD A)) := by unfold pc1; rw [if_pos e, ← hA1]
      have hb1 := ar_pg3 hb
      have hpa : A ≤ G.1 + 4096 := by
        rw [hA1]
        unfold pcA
        split
        · have := (upN_le (v := G.1) (a := cmV xs D) c1).2
          omega
        · omega
      have hb2 := ar_pg2 hb hpa c3
      have hvA : G.2.2.getD A < 2 ^ 40 := by
        cases eo : G.2.2 with
        | none => show A < _; omega
        | some v => exact hv v eo
      have zq := (h.2.2.2.1.1 149 D _ (Or.inr (Or.inr rfl)) (CLm_at h.2.2.2.1.2.1 (List.getElem?_eq_getElem q1)).2.1).1
      obtain ⟨p, hp⟩ : ∃ p, p = pN τ 149 D := ⟨_, rfl⟩
      rw [← hp] at k2 j8 j7 zq ⊢
      have put : ∃ τ', f_Layout_layData_166 F c (f_Layout_layData_111 F c f) 1700 (nI P) (some p) (some p) (lN A) (cH sk L τ) = f_Layout_layData_212 F c 1700 (lN ((s.1.2.2.1.drop (P + 1)).foldl (pc1 xs on rn0 th) (pc1 xs on rn0 th G D)).1) (cH sk L τ') ∧ fJ τ' 1700 15 = bsV ((s.1.2.2.1.drop (P + 1)).foldl (pc1 xs on rn0 th) (pc1 xs on rn0 th G D)).2.2 ∧ (∀ n, n ∈ s.1.2.2.1 → cB xs on rn0 n = true → fJ τ' (pN τ 149 n) 14 = lN (((s.1.2.2.1.drop (P + 1)).foldl (pc1 xs on rn0 th) (pc1 xs on rn0 th G D)).2.1 n)) ∧ fr14 τ τ' := by
        obtain ⟨τ1, hτ1⟩ : ∃ y, y = tJ τ p 14 (lN A) := ⟨_, rfl⟩
        have e15 : fJ τ1 1700 15 = bsV G.2.2 := by rw [hτ1, tJ_ne (Or.inl (by omega))]; exact h15
        obtain ⟨τ2, hτ2⟩ : ∃ y, y = tJ τ1 1700 15 (lN (G.2.2.getD A)) := ⟨_, rfl⟩
        have f2 : fr14 τ τ2 := by
          rw [hτ2, hτ1]
          exact ⟨fun _ _ => rfl, fun a k w1 w2 => (tJ_ne w2).trans (tJ_ne (Or.inl (by omega))), fun a k w1 w2 => (tJ_ne (Or.inl (by omega))).trans (tJ_ne (Or.inr w2)), fun _ _ => rfl, fun _ => rfl, fun _ => rfl, fun _ => rfl⟩
        have eP : ∀ n, pN τ2 149 n = pN τ 149 n := fun n => by unfold pN; rw [f2.2.2.2.2.2.2]
        have e14 : ∀ n, n < xs.length → fJ τ2 (pN τ 149 n) 14 = if n = D then lN A else fJ τ (pN τ 149 n) 14 := fun n hn => by
          have z2 := (CLm_at h.2.2.2.1.2.1 (List.getElem?_eq_getElem hn)).2.1
          have hge := (h.2.2.2.1.1 149 n _ (Or.inr (Or.inr rfl)) z2).1
          rw [hτ2, tJ_ne (Or.inl (by omega)), hτ1]
          by_cases en : n = D
          · rw [if_pos en, en, ← hp, tJ_at]
          · have zD := (CLm_at h.2.2.2.1.2.1 (List.getElem?_eq_getElem q1)).2.1
            have hne : pN τ 149 n ≠ p := by rw [hp]; exact NP_ne h.2.2.2.1.1 (Or.inr (Or.inr rfl)) (Or.inr (Or.inr rfl)) z2 zD (fun w => en w.2)
            rw [if_neg en, tJ_ne (Or.inl hne)]
        rw [ep]
        obtain ⟨τ', j1, j2, j3, j4⟩ := ih (P + 1) f τ2 (A + cmZ xs D, fun y => if y = D then A else G.2.1 y, some (G.2.2.getD A)) (by omega) (by omega) (TKe_Ly h (fr14_Ly f2)) (by rw [f2.2.2.2.2.1]; exact ht) (by rw [hτ2, tJ_at]; rfl) hb2 (fun v w => by cases w; exact hvA) (fun n hn hc => by
          have hnx : n < xs.length := by
            obtain ⟨i, hi⟩ := List.getElem?_of_mem (List.mem_of_mem_take hn)
            exact (h.2.2.2.1.2.1.2.2.2 i n hi).1
          rw [eP, e14 n hnx]
          show (if n = D then lN A else fJ τ (pN τ 149 n) 14) = lN (if n = D then A else G.2.1 n)
          by_cases en : n = D
          · rw [if_pos en, if_pos en]
          · rw [if_neg en, if_neg en]
            rw [htk] at hn
            rcases List.mem_append.mp hn with w | w
            · exact hA n w hc
            · exact absurd (List.mem_singleton.mp w) en)
        refine ⟨τ', ?_, j2, fun n hn hc => by rw [← eP n]; exact j3 n hn hc, fr14_trans f2 j4⟩
        unfold f_Layout_layData_166 f_Layout_layData_203 f_Layout_layData_206
        rw [bs, C5p14 k2, bs, ← hτ1, bs, C5g14 k2, bs, show fJ τ1 p 14 = lN A by rw [hτ1, tJ_at], C5g8 k2, bs, show fJ τ1 p 8 = lN (cmZ xs D) by rw [hτ1, tJ_ne (Or.inr (by decide))]; exact j8, C2g15 o, bs, e15, lN_add]
        cases eo : G.2.2 with
        | none =>
          have hle : ¬ lN 0 ≤ bsV (none : Option Nat) := by decide
          rw [if_neg hle, bs, show (none : Option Nat).getD A = A from rfl] at *
          rw [eo, show (none : Option Nat).getD A = A from rfl] at hτ2
          rw [C2p15 o, bs, ← hτ2, nI_add]
          rw [eo] at j1
          exact j1
        | some v =>
          have hle : lN 0 ≤ bsV (some v) := (bsV_le (o := some v) (fun w e => by cases e; exact hv v eo)).mpr rfl
          rw [if_pos hle, bs]
          rw [eo] at hτ2 j1
          have hτ2 : τ2 = tJ τ1 1700 15 (bsV (some v)) := hτ2
          rw [C2p15 o, bs, ← hτ2, nI_add]
          exact j1
      rw [if_neg (show ¬ bI true = 0 by decide), C2r4 o (GR_r (v := 1703) hR (by decide)), bs, c_aI (G1703 hS) (by decide) (by decide) (by decide), bs, ht]
      cases eth : th with
      | false =>
        have eA : A = G.1 := by rw [hA1]; unfold pcA; rw [if_neg (by rw [eth]; decide)]
        rw [if_pos (show bI false = 0 from rfl), ← eA]
        rw [eth] at put
        exact put
      | true =>
        have hp2 := hcq D _ (List.getElem?_eq_getElem q1) (by rw [stN_at (List.getElem?_eq_getElem q1)] at hst; exact hst)
        have ecv : cmV xs D = xs[D].2.2.2.2.2.2.2 := by unfold cmV; rw [List.getD_eq_getElem?_getD, List.getElem?_eq_getElem q1]; rfl
        rw [← ecv] at hp2
        obtain ⟨w1, w2⟩ := isP_pow (cmV xs D) (by omega) hp2
        have eU : f_H_up F c (lN G.1) (lN (cmV xs D)) (cH sk L τ) = some (lN A, cH sk L τ) := by
          rw [hA1]
          unfold pcA
          rw [if_pos eth]
          generalize Nat.log2 (cmV xs D) = k at w1 w2
          rw [w1]
          exact k_up w2 (by omega)
        rw [if_neg (show ¬ bI true = 0 by decide), bs, C5g7 k2, bs, j7, eU, xb_mk]
        rw [eth] at put
        exact put
end CCM
