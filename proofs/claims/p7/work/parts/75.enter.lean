/-! a name is entered -/
theorem fI_tI (τ : px_TT) (a k b j : Nat) (v : Int32) : fI (tI τ a k v) b j = if b = a ∧ j = k then v else fI τ b j := id rfl
theorem fI_tJ (τ : px_TT) (a k b j : Nat) (v : Int64) : fI (tJ τ a k v) b j = fI τ b j := id rfl
theorem fI_tN (τ : px_TT) (a k b j : Nat) (v : Option Nat) : fI (tN τ a k v) b j = fI τ b j := id rfl
theorem fJ_tI (τ : px_TT) (a k b j : Nat) (v : Int32) : fJ (tI τ a k v) b j = fJ τ b j := id rfl
theorem fJ_tJ (τ : px_TT) (a k b j : Nat) (v : Int64) : fJ (tJ τ a k v) b j = if b = a ∧ j = k then v else fJ τ b j := id rfl
theorem fJ_tN (τ : px_TT) (a k b j : Nat) (v : Option Nat) : fJ (tN τ a k v) b j = fJ τ b j := id rfl
theorem fN_tI (τ : px_TT) (a k b j : Nat) (v : Int32) : fN (tI τ a k v) b j = fN τ b j := id rfl
theorem fN_tJ (τ : px_TT) (a k b j : Nat) (v : Int64) : fN (tJ τ a k v) b j = fN τ b j := id rfl
theorem fN_tN (τ : px_TT) (a k b j : Nat) (v : Option Nat) : fN (tN τ a k v) b j = if b = a ∧ j = k then v else fN τ b j := id rfl
/-- nothing has changed but the object p -/
def frP (p : Nat) (τ τ' : px_TT) : Prop := (∀ a k, a ≠ p → fI τ' a k = fI τ a k) ∧ (∀ a k, a ≠ p → fJ τ' a k = fJ τ a k) ∧ (∀ a k, a ≠ p → fN τ' a k = fN τ a k) ∧ (∀ a, eI τ' a = eI τ a) ∧ (∀ a, eJ τ' a = eJ τ a) ∧ (∀ a, eN τ' a = eN τ a)
/-- a name of which nothing is known -/
def blk (τ : px_TT) (p : Nat) : Prop := (fI τ p 4 = nI 0 ∧ fI τ p 5 = nI 0 ∧ fN τ p 6 = none ∧ fJ τ p 7 = lN 0 ∧ fJ τ p 8 = lN 0 ∧ fI τ p 9 = nI 0) ∧ (fI τ p 10 = bI false ∧ fI τ p 11 = bI false ∧ fI τ p 12 = bI false ∧ fI τ p 13 = bI false) ∧ (fJ τ p 14 = lN 0 ∧ fI τ p 15 = nI 0 ∧ fI τ p 16 = nI 0 ∧ fI τ p 17 = nI 0)
section ENT
variable {F : Nat} {c : px_CT} {sk : Nat → Nat × Nat × Nat} {L : Nat} {τ : px_TT} {p t : Nat} {w : List Nat}
theorem k_renew (hp : ob sk L 5 p) (ht : ob sk L 5 t) (hne : t ≠ p) (hw : isNm τ t w) : ∃ τ', f_Name_renew F c p (some t) (cH sk L τ) = some ((), cH sk L τ') ∧ frP p τ τ' ∧ isNm τ' p w ∧ blk τ' p := by
  obtain ⟨w0, w1, w2, w3⟩ := hw
  unfold f_Name_renew
  rw [bs, C5g0 ht, bs, C5p0 hp, bs, C5g1 ht, bs, C5p1 hp, bs, C5g2 ht, bs, C5p2 hp, bs, C5g3 ht, bs, C5p3 hp, bs, C5p4 hp, bs, C5p5 hp, bs, C5w6 hp, bs, C5p7 hp, bs, C5p8 hp, bs, C5p9 hp, bs]
  rw [show xpZ _ 5 10 p (nI 0) = _ from C5z10 hp false, bs, show xpZ _ 5 11 p (nI 0) = _ from C5z11 hp false, bs, show xpZ _ 5 12 p (nI 0) = _ from C5z12 hp false, bs, show xpZ _ 5 13 p (nI 0) = _ from C5z13 hp false, bs, C5p14 hp, bs, C5p15 hp, bs, C5p16 hp, bs, C5p17 hp, bs]
  refine ⟨_, rfl, ⟨?_, ?_, ?_, fun _ => rfl, fun _ => rfl, fun _ => rfl⟩, ⟨?_, ?_, ?_, ?_⟩, ⟨?_, ?_, ?_, ?_, ?_, ?_⟩, ⟨?_, ?_, ?_, ?_⟩, ?_, ?_, ?_, ?_⟩
  · intro a k ha
    simp only [fI_tI, fI_tJ, fI_tN, ha, false_and, if_false]
  · intro a k ha
    simp only [fJ_tI, fJ_tJ, fJ_tN, ha, false_and, if_false]
  · intro a k ha
    simp only [fN_tI, fN_tJ, fN_tN, ha, false_and, if_false]
  all_goals simp [fI_tI, fI_tJ, fI_tN, fJ_tI, fJ_tJ, fJ_tN, fN_tI, fN_tJ, fN_tN, hne, w0, w1, w2, w3]
theorem c_sO {ty ci n i a : Nat} (h : ar sk L ty n a) (hty : ty = 4 ∨ ty = 5 ∨ ty = 6) (hn : n < 2 ^ 31) (hi : i < n) (ho : ob sk L ci p) : xsO (cH sk L τ) ty ci a (nI i) (some p) = some (cH sk L (vN τ a (va_up (eN τ a) i (some p)))) := by
  have hx : xco (cH sk L τ) ci (some p) = true := by
    show (xo (cH sk L τ) ci p).isSome = true
    rw [c_o ho]; rfl
  unfold xsO
  rw [c_N h hty, bs, if_neg (fun q => q.elim (nI_in hi hn) (fun r => by rw [hx] at r; cases r)), nI_clamp (by omega)]
  congr 1
  refine cH_set _ ?_ ?_
  · unfold cell
    rw [h.1, show eN (vN τ a (va_up (eN τ a) i (some p))) a = va_up (eN τ a) i (some p) from u1_eq]
    rcases hty with e | e | e <;> rw [e] <;> rfl
  · intro b hb
    exact cell_eq (fun j => rfl) (fun _ => rfl) (fun _ => rfl) rfl rfl (u1_ne hb)
theorem va_up_a {f : Nat → Option Nat} {i : Nat} {v : Option Nat} : va_up f i v i = v := by simp [va_up]
theorem va_up_n {f : Nat → Option Nat} {i j : Nat} {v : Option Nat} (h : j ≠ i) : va_up f i v j = f j := by simp [va_up, h]
/-- every name in the three lists is a cell of its own -/
def NP (sk : Nat → Nat × Nat × Nat) (L : Nat) (τ : px_TT) (own : Nat → Nat × Nat) : Prop := ∀ A i p, (A = 141 ∨ A = 144 ∨ A = 149) → eN τ A i = some p → 1815 ≤ p ∧ ob sk L 5 p ∧ own p = (A, i)
/-- a name has been entered in the list N, A: at the place j, the cell p -/
def frQ (N A j p : Nat) (τ τ' : px_TT) : Prop := (∀ a k, a ≠ p → (a ≠ N ∨ k ≠ 2) → fI τ' a k = fI τ a k) ∧ (∀ a k, a ≠ p → fJ τ' a k = fJ τ a k) ∧ (∀ a k, a ≠ p → fN τ' a k = fN τ a k) ∧ (∀ a, eI τ' a = eI τ a) ∧ (∀ a, eJ τ' a = eJ τ a) ∧ (∀ a, a ≠ A → eN τ' a = eN τ a) ∧ (∀ i, i ≠ j → eN τ' A i = eN τ A i)
theorem k_enter_61 {N A j : Nat} (hN : ob sk L 6 N) (hp : ob sk L 5 p) (ht : ob sk L 5 t) (hne : t ≠ p) (hpN : N ≠ p) (hw : isNm τ t w) (h2 : fI τ N 2 = nI j) : ∃ τ', f_Names_enter_61 F c N (some t) (some p) (cH sk L τ) = some (some p, cH sk L τ') ∧ isNm τ' p w ∧ blk τ' p ∧ fI τ' N 2 = nI (j + 1) ∧ (∀ a k, a ≠ p → (a ≠ N ∨ k ≠ 2) → fI τ' a k = fI τ a k) ∧ (∀ a k, a ≠ p → fJ τ' a k = fJ τ a k) ∧ (∀ a k, a ≠ p → fN τ' a k = fN τ a k) ∧ (∀ a, eI τ' a = eI τ a) ∧ (∀ a, eJ τ' a = eJ τ a) ∧ (∀ a, eN τ' a = eN τ a) := by
  obtain ⟨τ1, g1, g2, g3, g4⟩ := k_renew (F := F) (c := c) hp ht hne hw
  have e2 : fI τ1 N 2 = nI j := (g2.1 N 2 hpN).trans h2
  refine ⟨tI τ1 N 2 (nI (j + 1)), ?_, ?_, ?_, tI_at, ?_, g2.2.1, g2.2.2.1, g2.2.2.2.1, g2.2.2.2.2.1, g2.2.2.2.2.2⟩
  · unfold f_Names_enter_61
    rw [bs, c_o hp, bs, g1, xb_mk, C6g2 hN, bs, e2, nI_add, C6p2 hN, bs]
  · exact ⟨g3.1, g3.2.1, g3.2.2.1, (tI_ne (Or.inl (fun q => hpN q.symm))).trans g3.2.2.2⟩
  · have hI : ∀ k, fI (tI τ1 N 2 (nI (j + 1))) p k = fI τ1 p k := fun k => tI_ne (Or.inl (fun q => hpN q.symm))
    unfold blk
    rw [hI, hI, hI, hI, hI, hI, hI, hI, hI, hI]
    exact g4
  · intro a k ha h
    rw [tI_ne h, g2.1 a k ha]
theorem k_enter {N A m k : Nat} {ws : List (List Nat)} {ps : Nat → Nat} {own : Nat → Nat × Nat} (hS : GS sk L) (hns : isNs sk L τ N A m ws ps) (hnp : NP sk L τ own) (hA : A = 141 ∨ A = 144 ∨ A = 149) (hNl : N < 1726) (ht : ob sk L 5 t) (htl : t < 1726) (hw : isNm τ t w) (hok : okN w) (hl : ws.length < m) (hF : ws.length < F) (hno : idx w 0 ws = none) (hr : RMk sk L (k + 1)) : ∃ sk' L' τ' own' p, f_Names_enter F c N (some t) (cH sk L τ) = some (some p, cH sk' L' τ') ∧ EX sk L sk' L' ∧ RMk sk' L' k ∧ NP sk' L' τ' own' ∧ isNm τ' p w ∧ blk τ' p ∧ 1815 ≤ p ∧ eN τ' A ws.length = some p ∧ fI τ' N 2 = nI (ws.length + 1) ∧ frQ N A ws.length p τ τ' := by
  obtain ⟨s1, s2, s3, s4, s5, s6, s7⟩ := id hns
  have hL := hS.1
  unfold f_Names_enter
  rw [c_o s1, bs, k_find hns ht hw hok hF, xb_mk, hno]
  show ∃ sk' L' τ' own' p, ((xgI (cH sk L τ) 6 2 N).bind _) = _ ∧ _
  rw [C6g2 s1, bs, C6r0 s1 s2, bs, c_l s3 (by decide), bs, s6, if_pos (nI_lt hl (by omega)), bs, bs, c_aN s3 (by decide) (by omega) hl, bs]
  cases e : eN τ A ws.length with
  | some p =>
    obtain ⟨p1, p2, p3⟩ := hnp A ws.length p hA e
    obtain ⟨τ', g1, g2, g3, g4, g5, g6, g7, g8, g9, g10⟩ := k_enter_61 (F := F) (c := c) (A := A) s1 p2 ht (by omega) (by omega) hw s6
    refine ⟨sk, L, τ', own, p, g1, EX_refl, ⟨by have := hr.1; omega, by have := hr.2; omega⟩, ?_, g2, g3, p1, ?_, g4, g5, g6, g7, g8, g9, fun a _ => g10 a, fun i _ => by rw [g10 A]⟩
    · intro B i q hB hq
      rw [g10 B] at hq
      exact hnp B i q hB hq
    · rw [g10 A]; exact e
  | none =>
    obtain ⟨n1, n2, n3, n4⟩ := c_new5 (τ := τ) hr
    have hA3 := ar_ex s3 n3
    have hN3 := ob_ex s1 n3
    have ht3 := ob_ex ht n3
    have a1 : A ≠ L := by omega
    have a2 : N ≠ L := by omega
    have a3 : t ≠ L := by omega
    obtain ⟨τ2, hτ2⟩ : ∃ x, x = vN (nw τ L) A (va_up (eN (nw τ L) A) ws.length (some L)) := ⟨_, rfl⟩
    have hI : ∀ a k, a ≠ L → fI τ2 a k = fI τ a k := fun a k h => by rw [hτ2]; exact nw_I h
    have hJ : ∀ a k, a ≠ L → fJ τ2 a k = fJ τ a k := fun a k h => by rw [hτ2]; exact nw_J h
    have hNN : ∀ a k, a ≠ L → fN τ2 a k = fN τ a k := fun a k h => by rw [hτ2]; exact nw_N h
    have hE : ∀ a, a ≠ A → eN τ2 a = eN τ a := fun a h => by rw [hτ2]; exact u1_ne h
    have hEA : eN τ2 A = va_up (eN τ A) ws.length (some L) := by rw [hτ2]; exact (u1_eq : u1 (nw τ L).2.2.2.2.2 A (va_up (eN (nw τ L) A) ws.length (some L)) A = _)
    obtain ⟨τ', g1, g2, g3, g4, g5, g6, g7, g8, g9, g10⟩ := k_enter_61 (F := F) (c := c) (A := A) (τ := τ2) (w := w) hN3 n4 ht3 a3 a2 ⟨(hJ t 0 a3).trans hw.1, (hJ t 1 a3).trans hw.2.1, (hJ t 2 a3).trans hw.2.2.1, (hI t 3 a3).trans hw.2.2.2⟩ ((hI N 2 a2).trans s6)
    refine ⟨skN sk L 5, L + 1, τ', fun q => if q = L then (A, ws.length) else own q, L, ?_, n3, n2, ?_, g2, g3, hL, ?_, g4, ?_, ?_, ?_, ?_, ?_, ?_, ?_⟩
    · show xb (xnew (cH sk L τ) 5) _ = _
      unfold f_Name_init
      rw [n1, xb_mk, xb_mk, C6r0 hN3 ((nw_N a2).trans s2), bs, C6g2 hN3, bs, nw_I a2, s6, c_sO hA3 (by decide) (by omega) hl n4, bs, ← hτ2]
      exact g1
    · intro B i q hB hq
      rw [g10 B] at hq
      by_cases cB : B = A
      · rw [cB, hEA] at hq
        by_cases ci : i = ws.length
        · rw [ci, va_up_a] at hq
          have hqL : L = q := Option.some.inj hq
          rw [← hqL, ci, cB]
          exact ⟨hL, n4, if_pos rfl⟩
        · rw [va_up_n ci] at hq
          obtain ⟨b1, b2, b3⟩ := hnp A i q hA hq
          exact ⟨b1, ob_ex b2 n3, by rw [cB]; exact (if_neg (Nat.ne_of_lt b2.2)).trans b3⟩
      · rw [hE B cB] at hq
        obtain ⟨b1, b2, b3⟩ := hnp B i q hB hq
        exact ⟨b1, ob_ex b2 n3, (if_neg (Nat.ne_of_lt b2.2)).trans b3⟩
    · rw [g10 A, hEA, va_up_a]
    · intro a k h1 h2; exact (g5 a k h1 h2).trans (hI a k h1)
    · intro a k h1; exact (g6 a k h1).trans (hJ a k h1)
    · intro a k h1; exact (g7 a k h1).trans (hNN a k h1)
    · intro a; rw [g8 a, hτ2]; rfl
    · intro a; rw [g9 a, hτ2]; rfl
    · intro a h; exact (g10 a).trans (hE a h)
    · intro i hi; rw [g10 A, hEA, va_up_n hi]
end ENT
