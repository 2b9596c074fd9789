/-! a name is entered in the class: there or new -/
def pN (τ : px_TT) (A i : Nat) : Nat := (eN τ A i).getD 0
/-- cells that stand before any name, or hold another name than the one at A, j -/
def oth2 (A j : Nat) (τ : px_TT) (a : Nat) : Prop := a < 1815 ∨ ∃ B i, (B = 141 ∨ B = 144 ∨ B = 149) ∧ eN τ B i = some a ∧ ¬ (B = A ∧ i = j)
def frEn (N A j : Nat) (τ τ' : px_TT) : Prop := (∀ a k, oth2 A j τ a → (a ≠ N ∨ k ≠ 2) → fI τ' a k = fI τ a k) ∧ (∀ a k, oth2 A j τ a → fJ τ' a k = fJ τ a k) ∧ (∀ a k, oth2 A j τ a → fN τ' a k = fN τ a k) ∧ (∀ a, eI τ' a = eI τ a) ∧ (∀ a, eJ τ' a = eJ τ a) ∧ (∀ a, a ≠ A → eN τ' a = eN τ a) ∧ (∀ i, i ≠ j → eN τ' A i = eN τ A i)
theorem frEn_refl {N A j : Nat} {τ : px_TT} : frEn N A j τ τ := ⟨fun _ _ _ _ => rfl, fun _ _ _ => rfl, fun _ _ _ => rfl, fun _ => rfl, fun _ => rfl, fun _ _ => rfl, fun _ _ => rfl⟩
section ENG
variable {F : Nat} {c : px_CT} {sk : Nat → Nat × Nat × Nat} {L : Nat} {τ : px_TT} {t : Nat} {w : List Nat}
theorem k_enterG {N A m k : Nat} {ws : List (List Nat)} {own : Nat → Nat × Nat} (hS : GS sk L) (hns : isNs sk L τ N A m ws (pN τ A)) (hnp : NP sk L τ own) (hA : A = 141 ∨ A = 144 ∨ A = 149) (hNl : N < 1726) (ht : ob sk L 5 t) (hto : oth2 A ws.length τ t) (hw : isNm τ t w) (hok : okN w) (hl : ws.length < m) (hF : ws.length < F) (hr : RMk sk L (k + 1)) : ∃ sk' L' τ' own', f_Names_enter F c N (some t) (cH sk L τ) = some (some (pN τ' A (plc w ws)), cH sk' L' τ') ∧ EX sk L sk' L' ∧ RMk sk' L' k ∧ NP sk' L' τ' own' ∧ isNs sk' L' τ' N A m (ent w ws) (pN τ' A) ∧ (idx w 0 ws = none → blk τ' (pN τ' A ws.length)) ∧ (idx w 0 ws ≠ none → τ' = τ) ∧ frEn N A ws.length τ τ' := by
  obtain ⟨s1, s2, s3, s4, s5, s6, s7⟩ := id hns
  have hL := hS.1
  cases hi : idx w 0 ws with
  | some i =>
    refine ⟨sk, L, τ, own, ?_, EX_refl, ⟨by have := hr.1; omega, by have := hr.2; omega⟩, hnp, ?_, fun q => absurd q (fun e => by cases e), fun _ => rfl, frEn_refl⟩
    · unfold f_Names_enter
      rw [c_o s1, bs, k_find hns ht hw hok hF, xb_mk, hi]
      have e : plc w ws = i := by unfold plc; rw [hi]; rfl
      rw [e]
      rfl
    · unfold ent
      rw [if_pos (by rw [hi]; rfl)]
      exact hns
  | none =>
    have hent : ent w ws = ws ++ [w] := by unfold ent; rw [if_neg (by rw [hi]; decide)]
    have hplc : plc w ws = ws.length := by unfold plc; rw [hi]; rfl
    -- the cell that is entered
    have key : ∃ sk' L' τ' own' p, f_Names_enter F c N (some t) (cH sk L τ) = some (some p, cH sk' L' τ') ∧ EX sk L sk' L' ∧ RMk sk' L' k ∧ NP sk' L' τ' own' ∧ isNm τ' p w ∧ blk τ' p ∧ 1815 ≤ p ∧ eN τ' A ws.length = some p ∧ fI τ' N 2 = nI (ws.length + 1) ∧ frQ N A ws.length p τ τ' := by
      unfold f_Names_enter
      rw [c_o s1, bs, k_find hns ht hw hok hF, xb_mk, hi]
      show ∃ sk' L' τ' own' p, ((xgI (cH sk L τ) 6 2 N).bind _) = _ ∧ _
      rw [C6g2 s1, bs, C6r0 s1 s2, bs, c_l s3 (by decide), bs, s6, if_pos (nI_lt hl (by omega)), bs, bs, c_aN s3 (by decide) (by omega) hl, bs]
      cases e : eN τ A ws.length with
      | some p =>
        obtain ⟨p1, p2, p3⟩ := hnp A ws.length p hA e
        have htp : t ≠ p := fun q => by
          rcases hto with h1 | ⟨B, i, h1, h2, h3⟩
          · omega
          · have h4 := (hnp B i t h1 h2).2.2
            rw [q, p3] at h4
            exact h3 ⟨(congrArg Prod.fst h4).symm, (congrArg Prod.snd h4).symm⟩
        obtain ⟨τ', g1, g2, g3, g4, g5, g6, g7, g8, g9, g10⟩ := k_enter_61 (F := F) (c := c) (A := A) s1 p2 ht htp (by omega) hw s6
        refine ⟨sk, L, τ', own, p, g1, EX_refl, ⟨by have := hr.1; omega, by have := hr.2; omega⟩, ?_, g2, g3, p1, ?_, g4, g5, g6, g7, g8, g9, fun a _ => g10 a, fun i _ => by rw [g10 A]⟩
        · intro B i q hB hq
          rw [g10 B] at hq
          exact hnp B i q hB hq
        · rw [g10 A]; exact e
      | none =>
        obtain ⟨n1, n2, n3, n4⟩ := c_new5 (τ := τ) hr
        have hA3 := ar_ex s3 n3
        have hN3 := ob_ex s1 n3
        have ht3 := ob_ex ht n3
        have a1 : A ≠ L := by omega
        have a2 : N ≠ L := by omega
        have a3 : t ≠ L := Nat.ne_of_lt ht.2
        obtain ⟨τ2, hτ2⟩ : ∃ x, x = vN (nw τ L) A (va_up (eN (nw τ L) A) ws.length (some L)) := ⟨_, rfl⟩
        have hI : ∀ a k, a ≠ L → fI τ2 a k = fI τ a k := fun a k h => by rw [hτ2]; exact nw_I h
        have hJ : ∀ a k, a ≠ L → fJ τ2 a k = fJ τ a k := fun a k h => by rw [hτ2]; exact nw_J h
        have hNN : ∀ a k, a ≠ L → fN τ2 a k = fN τ a k := fun a k h => by rw [hτ2]; exact nw_N h
        have hE : ∀ a, a ≠ A → eN τ2 a = eN τ a := fun a h => by rw [hτ2]; exact u1_ne h
        have hEA : eN τ2 A = va_up (eN τ A) ws.length (some L) := by rw [hτ2]; exact (u1_eq : u1 (nw τ L).2.2.2.2.2 A (va_up (eN (nw τ L) A) ws.length (some L)) A = _)
        obtain ⟨τ', g1, g2, g3, g4, g5, g6, g7, g8, g9, g10⟩ := k_enter_61 (F := F) (c := c) (A := A) (τ := τ2) (w := w) hN3 n4 ht3 a3 a2 ⟨(hJ t 0 a3).trans hw.1, (hJ t 1 a3).trans hw.2.1, (hJ t 2 a3).trans hw.2.2.1, (hI t 3 a3).trans hw.2.2.2⟩ ((hI N 2 a2).trans s6)
        refine ⟨skN sk L 5, L + 1, τ', fun q => if q = L then (A, ws.length) else own q, L, ?_, n3, n2, ?_, g2, g3, hL, ?_, g4, ?_, ?_, ?_, ?_, ?_, ?_, ?_⟩
        · show xb (xnew (cH sk L τ) 5) _ = _
          unfold f_Name_init
          rw [n1, xb_mk, xb_mk, C6r0 hN3 ((nw_N a2).trans s2), bs, C6g2 hN3, bs, nw_I a2, s6, c_sO hA3 (by decide) (by omega) hl n4, bs, ← hτ2]
          exact g1
        · intro B i q hB hq
          rw [g10 B] at hq
          by_cases cB : B = A
          · rw [cB, hEA] at hq
            by_cases ci : i = ws.length
            · rw [ci, va_up_a] at hq
              have hqL : L = q := Option.some.inj hq
              rw [← hqL, ci, cB]
              exact ⟨hL, n4, if_pos rfl⟩
            · rw [va_up_n ci] at hq
              obtain ⟨b1, b2, b3⟩ := hnp A i q hA hq
              exact ⟨b1, ob_ex b2 n3, by rw [cB]; exact (if_neg (Nat.ne_of_lt b2.2)).trans b3⟩
          · rw [hE B cB] at hq
            obtain ⟨b1, b2, b3⟩ := hnp B i q hB hq
            exact ⟨b1, ob_ex b2 n3, (if_neg (Nat.ne_of_lt b2.2)).trans b3⟩
        · rw [g10 A, hEA, va_up_a]
        · intro a k h1 h2; exact (g5 a k h1 h2).trans (hI a k h1)
        · intro a k h1; exact (g6 a k h1).trans (hJ a k h1)
        · intro a k h1; exact (g7 a k h1).trans (hNN a k h1)
        · intro a; rw [g8 a, hτ2]; rfl
        · intro a; rw [g9 a, hτ2]; rfl
        · intro a h; exact (g10 a).trans (hE a h)
        · intro i hi; rw [g10 A, hEA, va_up_n hi]
    obtain ⟨sk', L', τ', own', p, k1, k2, k3, k4, k5, k6, k7, k8, k9, q1, q2, q3, q4, q5, q6, q7⟩ := key
    have hpp : ∀ a, oth2 A ws.length τ a → a ≠ p := fun a ha q => by
      rcases ha with h1 | ⟨B, i, h1, h2, h3⟩
      · omega
      · have h4 : eN τ' B i = some a := by
          by_cases cB : B = A
          · rw [cB, q7 i (fun e => h3 ⟨cB, e⟩), ← cB]; exact h2
          · rw [q6 B cB]; exact h2
        have h5 := (k4 B i a h1 h4).2.2
        have h6 := (k4 A ws.length p hA k8).2.2
        rw [q, h6] at h5
        exact h3 ⟨(congrArg Prod.fst h5).symm, (congrArg Prod.snd h5).symm⟩
    have eP : pN τ' A ws.length = p := by unfold pN; rw [k8]; rfl
    have eI' : ∀ i, i < ws.length → pN τ' A i = pN τ A i := fun i hi => by unfold pN; rw [q7 i (by omega)]
    refine ⟨sk', L', τ', own', ?_, k2, k3, k4, ?_, fun _ => by rw [eP]; exact k6, fun q => absurd rfl q, fun a k ha h => q1 a k (hpp a ha) h, fun a k ha => q2 a k (hpp a ha), fun a k ha => q3 a k (hpp a ha), q4, q5, q6, q7⟩
    · rw [hplc, eP]; exact k1
    · rw [hent]
      have hNo : oth2 A ws.length τ N := Or.inl (by omega)
      refine ⟨ob_ex s1 k2, (q3 N 0 (hpp N hNo)).trans s2, ar_ex s3 k2, by rw [List.length_append, List.length_singleton]; omega, s5, by rw [List.length_append, List.length_singleton]; exact k9, fun i v hv => ?_⟩
      by_cases ci : i < ws.length
      · rw [List.getElem?_append_left ci] at hv
        obtain ⟨z1, z2, z3, z4⟩ := s7 i v hv
        have hoi : oth2 A ws.length τ (pN τ A i) := Or.inr ⟨A, i, hA, z2, fun e => by omega⟩
        rw [eI' i ci]
        refine ⟨z1, by rw [q7 i (by omega)]; exact z2, ob_ex z3 k2, ?_⟩
        exact ⟨(q2 _ 0 (hpp _ hoi)).trans z4.1, (q2 _ 1 (hpp _ hoi)).trans z4.2.1, (q2 _ 2 (hpp _ hoi)).trans z4.2.2.1, (q1 _ 3 (hpp _ hoi) (Or.inr (by decide))).trans z4.2.2.2⟩
      · have ci2 : i = ws.length := by
          have := (List.getElem?_eq_some_iff.mp hv).1
          rw [List.length_append, List.length_singleton] at this
          omega
        rw [ci2, List.getElem?_append_right (Nat.le_refl _), Nat.sub_self] at hv
        have hv : w = v := Option.some.inj hv
        rw [← hv, ci2, eP]
        exact ⟨hok, k8, (k4 A ws.length p hA k8).2.1, k5⟩
end ENG
