section
/-! a name is entered -/
theorem fI_tI (τ : px_TT) (a k b j : Nat) (v : Int32) : fI (tI τ a k v) b j = if b = a ∧ j = k then v else fI τ b j := id rfl
theorem fI_tJ (τ : px_TT) (a k b j : Nat) (v : Int64) : fI (tJ τ a k v) b j = fI τ b j := id rfl
theorem fI_tN (τ : px_TT) (a k b j : Nat) (v : Option Nat) : fI (tN τ a k v) b j = fI τ b j := id rfl
theorem fJ_tI (τ : px_TT) (a k b j : Nat) (v : Int32) : fJ (tI τ a k v) b j = fJ τ b j := id rfl
theorem fJ_tJ (τ : px_TT) (a k b j : Nat) (v : Int64) : fJ (tJ τ a k v) b j = if b = a ∧ j = k then v else fJ τ b j := id rfl
theorem fJ_tN (τ : px_TT) (a k b j : Nat) (v : Option Nat) : fJ (tN τ a k v) b j = fJ τ b j := id rfl
theorem fN_tI (τ : px_TT) (a k b j : Nat) (v : Int32) : fN (tI τ a k v) b j = fN τ b j := id rfl
theorem fN_tJ (τ : px_TT) (a k b j : Nat) (v : Int64) : fN (tJ τ a k v) b j = fN τ b j := id rfl
theorem fN_tN (τ : px_TT) (a k b j : Nat) (v : Option Nat) : fN (tN τ a k v) b j = if b = a ∧ j = k then v else fN τ b j := id rfl
/-- nothing has changed but the object p -/
def frP (p : Nat) (τ τ' : px_TT) : Prop := (∀ a k, a ≠ p → fI τ' a k = fI τ a k) ∧ (∀ a k, a ≠ p → fJ τ' a k = fJ τ a k) ∧ (∀ a k, a ≠ p → fN τ' a k = fN τ a k) ∧ (∀ a, eI τ' a = eI τ a) ∧ (∀ a, eJ τ' a = eJ τ a) ∧ (∀ a, eN τ' a = eN τ a)
/-- a name of which nothing is known -/
def blk (τ : px_TT) (p : Nat) : Prop := (fI τ p 4 = nI 0 ∧ fI τ p 5 = nI 0 ∧ fN τ p 6 = none ∧ fJ τ p 7 = lN 0 ∧ fJ τ p 8 = lN 0 ∧ fI τ p 9 = nI 0) ∧ (fI τ p 10 = bI false ∧ fI τ p 11 = bI false ∧ fI τ p 12 = bI false ∧ fI τ p 13 = bI false) ∧ (fJ τ p 14 = lN 0 ∧ fI τ p 15 = nI 0 ∧ fI τ p 16 = nI 0 ∧ fI τ p 17 = nI 0)
section ENT
variable {F : Nat} {c : px_CT} {sk : Nat → Nat × Nat × Nat} {L : Nat} {τ : px_TT} {p t : Nat} {w : List Nat}
theorem k_renew (hp : ob sk L 5 p) (ht : ob sk L 5 t) (hne : t ≠ p) (hw : isNm τ t w) : ∃ τ', f_Name_renew F c p (some t) (cH sk L τ) = some ((), cH sk L τ') ∧ frP p τ τ' ∧ isNm τ' p w ∧ blk τ' p := by
  obtain ⟨w0, w1, w2, w3⟩ := hw
  unfold f_Name_renew
  rw [bs, C5g0 ht, bs, C5p0 hp, bs, C5g1 ht, bs, C5p1 hp, bs, C5g2 ht, bs, C5p2 hp, bs, C5g3 ht, bs, C5p3 hp, bs, C5p4 hp, bs, C5p5 hp, bs, C5w6 hp, bs, C5p7 hp, bs, C5p8 hp, bs, C5p9 hp, bs]
  rw [show xpZ _ 5 10 p (nI 0) = _ from C5z10 hp false, bs, show xpZ _ 5 11 p (nI 0) = _ from C5z11 hp false, bs, show xpZ _ 5 12 p (nI 0) = _ from C5z12 hp false, bs, show xpZ _ 5 13 p (nI 0) = _ from C5z13 hp false, bs, C5p14 hp, bs, C5p15 hp, bs, C5p16 hp, bs, C5p17 hp, bs]
  refine ⟨_, rfl, ⟨?_, ?_, ?_, fun _ => rfl, fun _ => rfl, fun _ => rfl⟩, ⟨?_, ?_, ?_, ?_⟩, ⟨?_, ?_, ?_, ?_, ?_, ?_⟩, ⟨?_, ?_, ?_, ?_⟩, ?_, ?_, ?_, ?_⟩
  · intro a k ha
    simp only [fI_tI, fI_tJ, fI_tN, ha, false_and, if_false]
  · intro a k ha
    simp only [fJ_tI, fJ_tJ, fJ_tN, ha, false_and, if_false]
  · intro a k ha
    simp only [fN_tI, fN_tJ, fN_tN, ha, false_and, if_false]
  all_goals simp [fI_tI, fI_tJ, fI_tN, fJ_tI, fJ_tJ, fJ_tN, fN_tI, fN_tJ, fN_tN, hne, w0, w1, w2, w3]
theorem c_sO {ty ci n i a : Nat} (h : ar sk L ty n a) (hty : ty = 4 ∨ ty = 5 ∨ ty = 6) (hn : n < 2 ^ 31) (hi : i < n) (ho : ob sk L ci p) : xsO (cH sk L τ) ty ci a (nI i) (some p) = some (cH sk L (vN τ a (va_up (eN τ a) i (some p)))) := by
  have hx : xco (cH sk L τ) ci (some p) = true := by
    show (xo (cH sk L τ) ci p).isSome = true
    rw [c_o ho]; rfl
  unfold xsO
  rw [c_N h hty, bs, if_neg (fun q => q.elim (nI_in hi hn) (fun r => by rw [hx] at r; cases r)), nI_clamp (by omega)]
  congr 1
  refine cH_set _ ?_ ?_
  · unfold cell
    rw [h.1, show eN (vN τ a (va_up (eN τ a) i (some p))) a = va_up (eN τ a) i (some p) from u1_eq]
    rcases hty with e | e | e <;> rw [e] <;> rfl
  · intro b hb
    exact cell_eq (fun j => rfl) (fun _ => rfl) (fun _ => rfl) rfl rfl (u1_ne hb)
theorem va_up_a {f : Nat → Option Nat} {i : Nat} {v : Option Nat} : va_up f i v i = v := by simp [va_up]
theorem va_up_n {f : Nat → Option Nat} {i j : Nat} {v : Option Nat} (h : j ≠ i) : va_up f i v j = f j := by simp [va_up, h]
/-- every name in the three lists is a cell of its own -/
def NP (sk : Nat → Nat × Nat × Nat) (L : Nat) (τ : px_TT) (own : Nat → Nat × Nat) : Prop := ∀ A i p, (A = 141 ∨ A = 144 ∨ A = 149) → eN τ A i = some p → 1815 ≤ p ∧ ob sk L 5 p ∧ own p = (A, i)
/-- a name has been entered in the list N, A: at the place j, the cell p -/
def frQ (N A j p : Nat) (τ τ' : px_TT) : Prop := (∀ a k, a ≠ p → (a ≠ N ∨ k ≠ 2) → fI τ' a k = fI τ a k) ∧ (∀ a k, a ≠ p → fJ τ' a k = fJ τ a k) ∧ (∀ a k, a ≠ p → fN τ' a k = fN τ a k) ∧ (∀ a, eI τ' a = eI τ a) ∧ (∀ a, eJ τ' a = eJ τ a) ∧ (∀ a, a ≠ A → eN τ' a = eN τ a) ∧ (∀ i, i ≠ j → eN τ' A i = eN τ A i)
theorem k_enter_61 {N A j : Nat} (hN : ob sk L 6 N) (hp : ob sk L 5 p) (ht : ob sk L 5 t) (hne : t ≠ p) (hpN : N ≠ p) (hw : isNm τ t w) (h2 : fI τ N 2 = nI j) : ∃ τ', f_Names_enter_61 F c N (some t) (some p) (cH sk L τ) = some (some p, cH sk L τ') ∧ isNm τ' p w ∧ blk τ' p ∧ fI τ' N 2 = nI (j + 1) ∧ (∀ a k, a ≠ p → (a ≠ N ∨ k ≠ 2) → fI τ' a k = fI τ a k) ∧ (∀ a k, a ≠ p → fJ τ' a k = fJ τ a k) ∧ (∀ a k, a ≠ p → fN τ' a k = fN τ a k) ∧ (∀ a, eI τ' a = eI τ a) ∧ (∀ a, eJ τ' a = eJ τ a) ∧ (∀ a, eN τ' a = eN τ a) := by
  obtain ⟨τ1, g1, g2, g3, g4⟩ := k_renew (F := F) (c := c) hp ht hne hw
  have e2 : fI τ1 N 2 = nI j := (g2.1 N 2 hpN).trans h2
  refine ⟨tI τ1 N 2 (nI (j + 1)), ?_, ?_, ?_, tI_at, ?_, g2.2.1, g2.2.2.1, g2.2.2.2.1, g2.2.2.2.2.1, g2.2.2.2.2.2⟩
  · unfold f_Names_enter_61
    rw [bs, c_o hp, bs, g1, xb_mk, C6g2 hN, bs, e2, nI_add, C6p2 hN, bs]
  · exact ⟨g3.1, g3.2.1, g3.2.2.1, (tI_ne (Or.inl (fun q => hpN q.symm))).trans g3.2.2.2⟩
  · have hI : ∀ k, fI (tI τ1 N 2 (nI (j + 1))) p k = fI τ1 p k := fun k => tI_ne (Or.inl (fun q => hpN q.symm))
    unfold blk
    rw [hI, hI, hI, hI, hI, hI, hI, hI, hI, hI]
    exact g4
  · intro a k ha h
    rw [tI_ne h, g2.1 a k ha]
theorem k_enter {N A m k : Nat} {ws : List (List Nat)} {ps : Nat → Nat} {own : Nat → Nat × Nat} (hS : GS sk L) (hns : isNs sk L τ N A m ws ps) (hnp : NP sk L τ own) (hA : A = 141 ∨ A = 144 ∨ A = 149) (hNl : N < 1726) (ht : ob sk L 5 t) (htl : t < 1726) (hw : isNm τ t w) (hok : okN w) (hl : ws.length < m) (hF : ws.length < F) (hno : idx w 0 ws = none) (hr : RMk sk L (k + 1)) : ∃ sk' L' τ' own' p, f_Names_enter F c N (some t) (cH sk L τ) = some (some p, cH sk' L' τ') ∧ EX sk L sk' L' ∧ RMk sk' L' k ∧ NP sk' L' τ' own' ∧ isNm τ' p w ∧ blk τ' p ∧ 1815 ≤ p ∧ eN τ' A ws.length = some p ∧ fI τ' N 2 = nI (ws.length + 1) ∧ frQ N A ws.length p τ τ' := by
  obtain ⟨s1, s2, s3, s4, s5, s6, s7⟩ := id hns
  have hL := hS.1
  unfold f_Names_enter
  rw [c_o s1, bs, k_find hns ht hw hok hF, xb_mk, hno]
  show ∃ sk' L' τ' own' p, ((xgI (cH sk L τ) 6 2 N).bind _) = _ ∧ _
  rw [C6g2 s1, bs, C6r0 s1 s2, bs, c_l s3 (by decide), bs, s6, if_pos (nI_lt hl (by omega)), bs, bs, c_aN s3 (by decide) (by omega) hl, bs]
  cases e : eN τ A ws.length with
  | some p =>
    obtain ⟨p1, p2, p3⟩ := hnp A ws.length p hA e
    obtain ⟨τ', g1, g2, g3, g4, g5, g6, g7, g8, g9, g10⟩ := k_enter_61 (F := F) (c := c) (A := A) s1 p2 ht (by omega) (by omega) hw s6
    refine ⟨sk, L, τ', own, p, g1, EX_refl, ⟨by have := hr.1; omega, by have := hr.2; omega⟩, ?_, g2, g3, p1, ?_, g4, g5, g6, g7, g8, g9, fun a _ => g10 a, fun i _ => by rw [g10 A]⟩
    · intro B i q hB hq
      rw [g10 B] at hq
      exact hnp B i q hB hq
    · rw [g10 A]; exact e
  | none =>
    obtain ⟨n1, n2, n3, n4⟩ := c_new5 (τ := τ) hr
    have hA3 := ar_ex s3 n3
    have hN3 := ob_ex s1 n3
    have ht3 := ob_ex ht n3
    have a1 : A ≠ L := by omega
    have a2 : N ≠ L := by omega
    have a3 : t ≠ L := by omega
    obtain ⟨τ2, hτ2⟩ : ∃ x, x = vN (nw τ L) A (va_up (eN (nw τ L) A) ws.length (some L)) := ⟨_, rfl⟩
    have hI : ∀ a k, a ≠ L → fI τ2 a k = fI τ a k := fun a k h => by rw [hτ2]; exact nw_I h
    have hJ : ∀ a k, a ≠ L → fJ τ2 a k = fJ τ a k := fun a k h => by rw [hτ2]; exact nw_J h
    have hNN : ∀ a k, a ≠ L → fN τ2 a k = fN τ a k := fun a k h => by rw [hτ2]; exact nw_N h
    have hE : ∀ a, a ≠ A → eN τ2 a = eN τ a := fun a h => by rw [hτ2]; exact u1_ne h
    have hEA : eN τ2 A = va_up (eN τ A) ws.length (some L) := by rw [hτ2]; exact (u1_eq : u1 (nw τ L).2.2.2.2.2 A (va_up (eN (nw τ L) A) ws.length (some L)) A = _)
    obtain ⟨τ', g1, g2, g3, g4, g5, g6, g7, g8, g9, g10⟩ := k_enter_61 (F := F) (c := c) (A := A) (τ := τ2) (w := w) hN3 n4 ht3 a3 a2 ⟨(hJ t 0 a3).trans hw.1, (hJ t 1 a3).trans hw.2.1, (hJ t 2 a3).trans hw.2.2.1, (hI t 3 a3).trans hw.2.2.2⟩ ((hI N 2 a2).trans s6)
    refine ⟨skN sk L 5, L + 1, τ', fun q => if q = L then (A, ws.length) else own q, L, ?_, n3, n2, ?_, g2, g3, hL, ?_, g4, ?_, ?_, ?_, ?_, ?_, ?_, ?_⟩
    · show xb (xnew (cH sk L τ) 5) _ = _
      unfold f_Name_init
      rw [n1, xb_mk, xb_mk, C6r0 hN3 ((nw_N a2).trans s2), bs, C6g2 hN3, bs, nw_I a2, s6, c_sO hA3 (by decide) (by omega) hl n4, bs, ← hτ2]
      exact g1
    · intro B i q hB hq
      rw [g10 B] at hq
      by_cases cB : B = A
      · rw [cB, hEA] at hq
        by_cases ci : i = ws.length
        · rw [ci, va_up_a] at hq
          have hqL : L = q := Option.some.inj hq
          rw [← hqL, ci, cB]
          exact ⟨hL, n4, if_pos rfl⟩
        · rw [va_up_n ci] at hq
          obtain ⟨b1, b2, b3⟩ := hnp A i q hA hq
          exact ⟨b1, ob_ex b2 n3, by rw [cB]; exact (if_neg (Nat.ne_of_lt b2.2)).trans b3⟩
      · rw [hE B cB] at hq
        obtain ⟨b1, b2, b3⟩ := hnp B i q hB hq
        exact ⟨b1, ob_ex b2 n3, (if_neg (Nat.ne_of_lt b2.2)).trans b3⟩
    · rw [g10 A, hEA, va_up_a]
    · intro a k h1 h2; exact (g5 a k h1 h2).trans (hI a k h1)
    · intro a k h1; exact (g6 a k h1).trans (hJ a k h1)
    · intro a k h1; exact (g7 a k h1).trans (hNN a k h1)
    · intro a; rw [g8 a, hτ2]; rfl
    · intro a; rw [g9 a, hτ2]; rfl
    · intro a h; exact (g10 a).trans (hE a h)
    · intro i hi; rw [g10 A, hEA, va_up_n hi]
end ENT
end
section
/-! give, wish, forget of the class -/
/-- a list of names, as the class has it -/
def CN (sk : Nat → Nat × Nat × Nat) (L : Nat) (τ : px_TT) (N A : Nat) (ws : List (List Nat)) : Prop := isNs sk L τ N A 16 ws (fun i => (eN τ A i).getD 0)
def CG (sk : Nat → Nat × Nat × Nat) (L : Nat) (τ : px_TT) (gs : List (List Nat × Int64)) : Prop := CN sk L τ 140 141 (gs.map Prod.fst) ∧ ∀ i x, gs[i]? = some x → fJ τ ((eN τ 141 i).getD 0) 7 = x.2
def CW (sk : Nat → Nat × Nat × Nat) (L : Nat) (τ : px_TT) (ws : List (List Nat)) : Prop := CN sk L τ 143 144 ws
/-- the told names' places as they were -/
def SH (τ τ' : px_TT) : Prop := (∀ a k, (a = 140 ∨ a = 143 ∨ 1815 ≤ a) → fI τ' a k = fI τ a k) ∧ (∀ a k, (a = 140 ∨ a = 143 ∨ 1815 ≤ a) → fJ τ' a k = fJ τ a k) ∧ (∀ a k, (a = 140 ∨ a = 143 ∨ 1815 ≤ a) → fN τ' a k = fN τ a k) ∧ (∀ a, (a = 141 ∨ a = 144 ∨ a = 149) → eN τ' a = eN τ a)
/-- nothing has changed but the tape's length and the probe -/
def frT (τ τ' : px_TT) : Prop := (∀ a k, a ≠ 1 → (a ≠ 146 ∨ k ≠ 3) → fI τ' a k = fI τ a k) ∧ (∀ a k, (a ≠ 146 ∨ 2 < k) → fJ τ' a k = fJ τ a k) ∧ (∀ a k, fN τ' a k = fN τ a k) ∧ (∀ a, eI τ' a = eI τ a) ∧ (∀ a, eJ τ' a = eJ τ a) ∧ (∀ a, eN τ' a = eN τ a)
section CTD
variable {F : Nat} {c : px_CT} {sk sk' : Nat → Nat × Nat × Nat} {L L' : Nat} {τ τ' : px_TT} {n : Nat} {b : Nat → Nat} {own : Nat → Nat × Nat} {ws : List (List Nat)} {gs : List (List Nat × Int64)}
theorem NP_sh (h : NP sk L τ own) (s : SH τ τ') : NP sk L τ' own := by
  intro A i p hA hp
  rw [s.2.2.2 A hA] at hp
  exact h A i p hA hp
theorem isNm_mv {a : Nat} {w : List Nat} (h : isNm τ a w) (hJ : ∀ k, k < 3 → fJ τ' a k = fJ τ a k) (hI : fI τ' a 3 = fI τ a 3) : isNm τ' a w := ⟨(hJ 0 (by decide)).trans h.1, (hJ 1 (by decide)).trans h.2.1, (hJ 2 (by decide)).trans h.2.2.1, hI.trans h.2.2.2⟩
/-- a list of names stays, whatever else is entered -/
theorem CN_mv {N A : Nat} (h : CN sk L τ N A ws) (e : EX sk L sk' L') (hN0 : fN τ' N 0 = fN τ N 0) (hN2 : fI τ' N 2 = fI τ N 2) (hE : ∀ i, i < ws.length → eN τ' A i = eN τ A i) (hx : ∀ i p, i < ws.length → eN τ A i = some p → (∀ k, k < 3 → fJ τ' p k = fJ τ p k) ∧ fI τ' p 3 = fI τ p 3) : CN sk' L' τ' N A ws := by
  obtain ⟨s1, s2, s3, s4, s5, s6, s7⟩ := h
  refine ⟨ob_ex s1 e, hN0.trans s2, ar_ex s3 e, s4, s5, hN2.trans s6, fun i w hw => ?_⟩
  have hi : i < ws.length := (List.getElem?_eq_some_iff.mp hw).1
  obtain ⟨a1, a2, a3, a4⟩ := s7 i w hw
  have := hx i _ hi a2
  show okN w ∧ eN τ' A i = some ((eN τ' A i).getD 0) ∧ ob sk' L' 5 ((eN τ' A i).getD 0) ∧ isNm τ' ((eN τ' A i).getD 0) w
  rw [hE i hi]
  exact ⟨a1, a2, ob_ex a3 e, isNm_mv a4 this.1 this.2⟩
theorem CN_sh {N A : Nat} (h : CN sk L τ N A ws) (s : SH τ τ') (hn : NP sk L τ own) (hN : N = 140 ∨ N = 143) (hA : A = 141 ∨ A = 144) : CN sk L τ' N A ws := by
  have hA3 : A = 141 ∨ A = 144 ∨ A = 149 := by omega
  refine CN_mv h EX_refl (s.2.2.1 N 0 (by omega)) (s.1 N 2 (by omega)) (fun i _ => by rw [s.2.2.2 A hA3]) (fun i p _ hp => ?_)
  have := (hn A i p hA3 hp).1
  exact ⟨fun k _ => s.2.1 p k (by omega), s.1 p 3 (by omega)⟩
theorem CG_sh (h : CG sk L τ gs) (s : SH τ τ') (hn : NP sk L τ own) : CG sk L τ' gs := by
  refine ⟨CN_sh h.1 s hn (Or.inl rfl) (Or.inl rfl), fun i x hx => ?_⟩
  have hi : i < (gs.map Prod.fst).length := by rw [List.length_map]; exact (List.getElem?_eq_some_iff.mp hx).1
  have hm : (gs.map Prod.fst)[i]? = some x.1 := by rw [List.getElem?_map, hx]; rfl
  have hp : eN τ 141 i = some ((eN τ 141 i).getD 0) := (h.1.2.2.2.2.2.2 i _ hm).2.1
  have := (hn 141 i _ (by omega) hp).1
  rw [s.2.2.2 141 (by omega), s.2.1 _ 7 (by omega)]
  exact h.2 i x hx
theorem CW_sh (h : CW sk L τ ws) (s : SH τ τ') (hn : NP sk L τ own) : CW sk L τ' ws := CN_sh h s hn (Or.inr rfl) (Or.inr rfl)
theorem k_rTN_38 (hS : GS sk L) (hn : n ≤ 20) : ∀ (d k f : Nat) (τ : px_TT), k + d = n → d < f → GR τ → CTp τ n b → isNm τ 146 (tk b 0 k) → ∃ τ', f_H_readTapeName_38 F c f 0 (bI true) (nI k) (cH sk L τ) = f_H_readTapeName_86 F c 0 (bI (nzf b k d)) (cH sk L τ') ∧ frN 146 τ τ' ∧ (nzf b k d = true → isNm τ' 146 (tk b 0 n)) := by
  intro d
  induction d with
  | zero =>
    intro k f τ hk hf hR ht hw
    obtain ⟨f, rfl⟩ : ∃ x, f = x + 1 := ⟨f - 1, by omega⟩
    refine ⟨τ, ?_, frN_refl _ _, fun _ => by rw [show n = k by omega]; exact hw⟩
    unfold f_H_readTapeName_38
    rw [if_neg (show ¬ bI true = 0 by decide), C0r0 (G0 hS) (R0_0 hR), bs, C10g1 (G1 hS), bs, ht.1, if_pos (nI_le (by omega) (by omega))]
    rfl
  | succ d ih =>
    intro k f τ hk hf hR ht hw
    obtain ⟨f, rfl⟩ : ∃ x, f = x + 1 := ⟨f - 1, by omega⟩
    have hb : ∀ i, b i < 256 := fun i => by rw [← ht.2.2.2]; exact cb_lt _ _ _ _
    obtain ⟨τ1, g1, g2, g3⟩ := k_append (F := F) (c := c) (x := b k) (G146 hS) hw (by rw [tk_len]; omega) (tk_lt hb 0 k) (hb k)
    have hR1 : GR τ1 := GR_mv hR (fun a k _ => g2.2.2.1 a k) (fun a k h _ => g2.1 a k (Or.inl (by omega))) (g2.2.2.2.2.2 9) (g2.2.2.2.2.2 151)
    have ht1 : CTp τ1 n b := by
      unfold CTp
      rw [g2.1 1 1 (Or.inl (by decide)), g2.2.2.2.1 2]
      exact ht
    unfold f_H_readTapeName_38 f_H_readTapeName_79
    rw [if_neg (show ¬ bI true = 0 by decide), C0r0 (G0 hS) (R0_0 hR), bs, C10g1 (G1 hS), bs, ht.1, if_neg (nI_ge (by omega) (by omega)), bs, c_o (G1 hS), bs, k_tapeAt hS hR ht (by omega), xb_mk, C0r10 (G0 hS) (R0_10 hR), bs, c_o (G146 hS), bs, g1, xb_mk, nI_add]
    unfold nzf
    by_cases e : b k = 0
    · obtain ⟨f, rfl⟩ : ∃ x, f = x + 1 := ⟨f - 1, by omega⟩
      rw [if_pos (by rw [e]; rfl), decide_eq_false (fun q => q e), Bool.false_and]
      unfold f_H_readTapeName_38
      rw [if_pos (show nI 0 = 0 from rfl)]
      exact ⟨τ1, rfl, g2, fun q => nomatch q⟩
    · rw [if_neg (show ¬ nI (b k) = 0 from fun q => e ((nI_eq (b := 0) (by have := hb k; omega) (by decide)).mp q)), decide_eq_true e, Bool.true_and, show nI 1 = bI true from rfl]
      obtain ⟨τ', i1, i2, i3⟩ := ih (k + 1) f τ1 (by omega) (by omega) hR1 ht1 (by
        show isNm τ1 146 (tk b 0 k ++ [b (0 + k)])
        rw [Nat.zero_add]
        exact g3)
      exact ⟨τ', i1, frN_trans g2 i2, i3⟩
theorem k_readTapeName (hS : GS sk L) (hR : GR τ) (hF : 20 < F) (ht : CTp τ n b) : ∃ τ', f_H_readTapeName F c 0 (cH sk L τ) = some (bI (tnm b n), cH sk L τ') ∧ GR τ' ∧ CTp τ' 0 (fun _ => 0) ∧ frT τ τ' ∧ (tnm b n = true → isNm τ' 146 (tk b 0 n)) := by
  obtain ⟨τ1, g1, g2, g3⟩ := k_wipe (F := F) (c := c) (τ := τ) (G146 hS)
  have hR1 : GR τ1 := GR_mv hR (fun a k _ => g2.2.2.1 a k) (fun a k h _ => g2.1 a k (Or.inl (by omega))) (g2.2.2.2.2.2 9) (g2.2.2.2.2.2 151)
  have ht1 : CTp τ1 n b := by
    unfold CTp
    rw [g2.1 1 1 (Or.inl (by decide)), g2.2.2.2.1 2]
    exact ht
  have fin : ∀ (τ2 : px_TT) (z : Bool), frN 146 τ1 τ2 → (f_H_readTapeName_86 F c 0 (bI z) (cH sk L τ2) = some (bI z, cH sk L (tI (tI τ2 1 1 (nI 0)) 1 2 (bI false))) ∧ GR (tI (tI τ2 1 1 (nI 0)) 1 2 (bI false)) ∧ CTp (tI (tI τ2 1 1 (nI 0)) 1 2 (bI false)) 0 (fun _ => 0) ∧ frT τ (tI (tI τ2 1 1 (nI 0)) 1 2 (bI false))) := by
    intro τ2 z h
    have hR2 : GR τ2 := GR_mv hR1 (fun a k _ => h.2.2.1 a k) (fun a k q _ => h.1 a k (Or.inl (by omega))) (h.2.2.2.2.2 9) (h.2.2.2.2.2 151)
    refine ⟨?_, GR_I (GR_I hR2 (by omega)) (by omega), clr_T (by rw [h.2.2.2.1 2]; exact ht1.2.2.1), ⟨?_, ?_, ?_, ?_, ?_, ?_⟩⟩
    · unfold f_H_readTapeName_86
      rw [C0r0 (G0 hS) (R0_0 hR2), bs, c_o (G1 hS), bs, k_clear hS, xb_mk, xz_b]
    · intro a k h1 h2
      rw [tI_ne (Or.inl h1), tI_ne (Or.inl h1), h.1 a k h2, g2.1 a k h2]
    · intro a k h1; exact (h.2.1 a k h1).trans (g2.2.1 a k h1)
    · intro a k; exact (h.2.2.1 a k).trans (g2.2.2.1 a k)
    · intro a; exact (h.2.2.2.1 a).trans (g2.2.2.2.1 a)
    · intro a; exact (h.2.2.2.2.1 a).trans (g2.2.2.2.2.1 a)
    · intro a; exact (h.2.2.2.2.2 a).trans (g2.2.2.2.2.2 a)
  have bad : ∀ (z : Int32), f_H_readTapeName_28 F c 0 (nI 0) (cH sk L τ) = f_H_readTapeName_86 F c 0 (bI false) (cH sk L τ1) := by
    intro _
    obtain ⟨f, hf⟩ : ∃ x, F = x + 1 := ⟨F - 1, by omega⟩
    have e : ∀ g, f_H_readTapeName_38 F c (g + 1) 0 (nI 0) (nI 0) (cH sk L τ1) = f_H_readTapeName_86 F c 0 (nI 0) (cH sk L τ1) := by
      intro g
      unfold f_H_readTapeName_38
      rw [if_pos (show nI 0 = 0 from rfl)]
    unfold f_H_readTapeName_28
    rw [C0r10 (G0 hS) (R0_10 hR), bs, c_o (G146 hS), bs, g1, xb_mk]
    have := e f
    rw [← hf] at this
    exact this
  have t1 := ht.1
  have t2 := ht.2.1
  unfold f_H_readTapeName f_H_readTapeName_27 tnm
  rw [C0r0 (G0 hS) (R0_0 hR), bs, C10g1 (G1 hS), bs, t1]
  by_cases c1 : 1 ≤ n
  · rw [if_neg (nI_nlt c1 (by omega)), bs, C10g1 (G1 hS), bs, t1, decide_eq_true c1, Bool.true_and]
    by_cases c2 : n ≤ 20
    · rw [if_neg (nI_nlt c2 (by omega)), decide_eq_true c2, Bool.true_and]
      obtain ⟨τ2, i1, i2, i3⟩ := k_rTN_38 (F := F) (c := c) hS c2 n 0 F τ1 (by omega) (by omega) hR1 ht1 g3
      obtain ⟨j1, j2, j3, j4⟩ := fin τ2 (nzf b 0 n) i2
      refine ⟨_, ?_, j2, j3, j4, fun q => isNm_mv (i3 q) (fun _ _ => rfl) ((tI_ne (Or.inl (by decide))).trans (tI_ne (Or.inl (by decide))))⟩
      unfold f_H_readTapeName_28
      rw [C0r10 (G0 hS) (R0_10 hR), bs, c_o (G146 hS), bs, g1, xb_mk, show nI 1 = bI true from rfl, i1, j1]
    · rw [if_pos (nI_lt (by omega) (by omega)), decide_eq_false c2, Bool.false_and, bad 0]
      obtain ⟨j1, j2, j3, j4⟩ := fin τ1 false (frN_refl _ _)
      exact ⟨_, j1, j2, j3, j4, fun q => nomatch q⟩
  · rw [if_pos (nI_lt (by omega) (by omega)), decide_eq_false c1, Bool.false_and, Bool.false_and, bad 0]
    obtain ⟨j1, j2, j3, j4⟩ := fin τ1 false (frN_refl _ _)
    exact ⟨_, j1, j2, j3, j4, fun q => nomatch q⟩
end CTD
end
section
/-! give, wish, forget of the class -/
/-- nothing has changed but what the telling of a name changes; p is its cell -/
def frU (p : Nat) (τ τ' : px_TT) : Prop := (∀ a k, a ≠ p → a ≠ 1 → (a ≠ 140 ∨ k ≠ 2) → (a ≠ 143 ∨ k ≠ 2) → (a ≠ 146 ∨ k ≠ 3) → fI τ' a k = fI τ a k) ∧ (∀ a k, a ≠ p → (a ≠ 146 ∨ 2 < k) → fJ τ' a k = fJ τ a k) ∧ (∀ a k, a ≠ p → fN τ' a k = fN τ a k) ∧ (∀ a, eI τ' a = eI τ a) ∧ (∀ a, eJ τ' a = eJ τ a) ∧ (∀ a, a ≠ 141 → a ≠ 144 → eN τ' a = eN τ a)
section CGV
variable {F : Nat} {c : px_CT} {sk sk' : Nat → Nat × Nat × Nat} {L L' : Nat} {τ τ' : px_TT} {n k : Nat} {b : Nat → Nat} {own : Nat → Nat × Nat} {ws vs : List (List Nat)} {gs : List (List Nat × Int64)} {fs : List (Nat × (Nat → Nat))} {w : List Nat}
theorem CN_other {N A N' A' j p : Nat} (h : CN sk L τ N' A' ws) (e : EX sk L sk' L') (q : frQ N A j p τ τ') (hnp : NP sk' L' τ' own) (hp : eN τ' A j = some p) (hA : A = 141 ∨ A = 144 ∨ A = 149) (hA' : A' = 141 ∨ A' = 144 ∨ A' = 149) (hne : A' ≠ A) (hN : N' ≠ N) (hN' : N' < 1726) : CN sk' L' τ' N' A' ws := by
  obtain ⟨p1, p2, p3⟩ := hnp A j p hA hp
  refine CN_mv h e (q.2.2.1 N' 0 (by omega)) (q.1 N' 2 (by omega) (Or.inl hN)) (fun i _ => by rw [q.2.2.2.2.2.1 A' hne]) (fun i r _ hr => ?_)
  rw [← q.2.2.2.2.2.1 A' hne] at hr
  have h3 := (hnp A' i r hA' hr)
  have hrp : r ≠ p := by
    intro e1
    rw [e1, p3] at h3
    exact hne (congrArg Prod.fst h3.2.2).symm
  have h1 := h3.1
  have hN2 : r ≠ N ∨ 3 ≠ 2 := Or.inr (by decide)
  exact ⟨fun k _ => q.2.1 r k hrp, q.1 r 3 hrp hN2⟩
theorem CN_app {N A p : Nat} (h : CN sk L τ N A ws) (e : EX sk L sk' L') (q : frQ N A ws.length p τ τ') (hnp : NP sk' L' τ' own) (hp : eN τ' A ws.length = some p) (hA : A = 141 ∨ A = 144 ∨ A = 149) (hN' : N < 1726) (hl : ws.length < 16) (hw : isNm τ' p w) (hok : okN w) (h2 : fI τ' N 2 = nI (ws.length + 1)) : CN sk' L' τ' N A (ws ++ [w]) := by
  obtain ⟨p1, p2, p3⟩ := hnp A _ p hA hp
  obtain ⟨s1, s2, s3, s4, s5, s6, s7⟩ := h
  have hlen : (ws ++ [w]).length = ws.length + 1 := by rw [List.length_append]; rfl
  refine ⟨ob_ex s1 e, (q.2.2.1 N 0 (by omega)).trans s2, ar_ex s3 e, by omega, s5, by rw [hlen]; exact h2, fun i v hv => ?_⟩
  show okN v ∧ eN τ' A i = some ((eN τ' A i).getD 0) ∧ ob sk' L' 5 ((eN τ' A i).getD 0) ∧ isNm τ' ((eN τ' A i).getD 0) v
  by_cases ci : i < ws.length
  · rw [List.getElem?_append_left ci] at hv
    obtain ⟨a1, a2, a3, a4⟩ := s7 i v hv
    have e1 : eN τ' A i = eN τ A i := q.2.2.2.2.2.2 i (by omega)
    have hr : eN τ' A i = some ((eN τ A i).getD 0) := e1.trans a2
    have h3 := hnp A i _ hA hr
    have hrp : (eN τ A i).getD 0 ≠ p := by
      intro e2
      rw [e2, p3] at h3
      have := congrArg Prod.snd h3.2.2
      exact absurd this (by show ¬ ws.length = i; omega)
    rw [e1]
    exact ⟨a1, a2, ob_ex a3 e, isNm_mv a4 (fun k _ => q.2.1 _ k hrp) (q.1 _ 3 hrp (Or.inr (by decide)))⟩
  · have hi : i = ws.length := by
      have := (List.getElem?_eq_some_iff.mp hv).1
      omega
    rw [hi, List.getElem?_append_right (Nat.le_refl _), Nat.sub_self] at hv
    have hv2 : v = w := (Option.some.inj hv).symm
    rw [hi, hp, hv2]
    exact ⟨hok, rfl, p2, hw⟩
theorem SH_T (s : frT τ τ') : SH τ τ' := ⟨fun a k h => s.1 a k (by omega) (Or.inl (by omega)), fun a k h => s.2.1 a k (Or.inl (by omega)), fun a k _ => s.2.2.1 a k, fun a _ => s.2.2.2.2.2 a⟩
theorem SF_T (s : frT τ τ') : SF τ τ' := ⟨fun a k h _ => s.1 a k (by omega) (Or.inl (by omega)), fun a k _ => s.2.2.1 a k, fun a _ => s.2.2.2.1 a⟩
theorem gcd_0 (h : gcd' b n ws = 0) : tnm b n = true ∧ ws.length ≠ 16 ∧ idx (tk b 0 n) 0 ws = none := by
  unfold gcd' at h
  by_cases c1 : tnm b n = true
  · rw [if_pos c1] at h
    by_cases c2 : ws.length = 16 ∨ (idx (tk b 0 n) 0 ws).isSome = true
    · rw [if_pos c2] at h; cases h
    · refine ⟨c1, fun q => c2 (Or.inl q), ?_⟩
      cases e : idx (tk b 0 n) 0 ws with
      | none => rfl
      | some i => exact absurd (Or.inr (by rw [e]; rfl)) c2
  · rw [if_neg c1] at h; cases h
/-- what holds behind a name's entering -/
theorem k_tell {N A N' A' : Nat} {τ1 : px_TT} (hS : GS sk L) (hR1 : GR τ1) (ht1 : CTp τ1 0 (fun _ => 0)) (hT : frT τ τ1) (hnm : isNm τ1 146 w) (hok : okN w) (hF : 20 < F) (hn : NP sk L τ own) (hNA : (N = 140 ∧ A = 141 ∧ N' = 143 ∧ A' = 144) ∨ (N = 143 ∧ A = 144 ∧ N' = 140 ∧ A' = 141)) (h1 : CN sk L τ N A ws) (h2 : CN sk L τ N' A' vs) (hf : CF sk L τ fs) (hl : ws.length < 16) (hno : idx w 0 ws = none) (hr : RMk sk L (k + 1)) : ∃ sk' L' τ' own' p, f_Names_enter F c N (some 146) (cH sk L τ1) = some (some p, cH sk' L' τ') ∧ EX sk L sk' L' ∧ RMk sk' L' k ∧ GS sk' L' ∧ GR τ' ∧ CTp τ' 0 (fun _ => 0) ∧ CF sk' L' τ' fs ∧ NP sk' L' τ' own' ∧ CN sk' L' τ' N A (ws ++ [w]) ∧ CN sk' L' τ' N' A' vs ∧ ob sk' L' 5 p ∧ 1815 ≤ p ∧ eN τ' A ws.length = some p ∧ frU p τ τ' ∧ frQ N A ws.length p τ1 τ' := by
  have hA : A = 141 ∨ A = 144 ∨ A = 149 := by omega
  have hn1 : NP sk L τ1 own := NP_sh hn (SH_T hT)
  have c1 : CN sk L τ1 N A ws := CN_sh h1 (SH_T hT) hn (by omega) (by omega)
  have c2 : CN sk L τ1 N' A' vs := CN_sh h2 (SH_T hT) hn (by omega) (by omega)
  obtain ⟨sk', L', τ', own', p, g1, g2, g3, g4, g5, g6, g7, g8, g9, g10⟩ := k_enter (F := F) (c := c) hS c1 hn1 hA (by omega) (G146 hS) (by decide) hnm hok hl (by omega) hno hr
  refine ⟨sk', L', τ', own', p, g1, g2, g3, GS_ex hS g2, ?_, ?_, ?_, g4, CN_app c1 g2 g10 g4 g8 hA (by omega) hl g5 hok g9, CN_other c2 g2 g10 g4 g8 hA (by omega) (by omega) (by omega) (by omega), (g4 A _ p hA g8).2.1, g7, g8, ?_, g10⟩
  · exact GR_mv hR1 (fun a k h => g10.2.2.1 a k (by omega)) (fun a k h _ => g10.1 a k (by omega) (Or.inl (by omega))) (g10.2.2.2.2.2.1 9 (by omega)) (g10.2.2.2.2.2.1 151 (by omega))
  · unfold CTp
    rw [g10.1 1 1 (by omega) (Or.inl (by omega)), g10.2.2.2.1 2]
    exact ht1
  · refine CF_mv (CF_mv hf EX_refl (SF_T hT)) g2 ⟨fun a k h _ => g10.1 a k (by omega) (Or.inl (by omega)), fun a k h => g10.2.2.1 a k (by omega), fun a _ => g10.2.2.2.1 a⟩
  · refine ⟨?_, ?_, ?_, ?_, ?_, ?_⟩
    · intro a k a1 a2 a3 a4 a5
      rw [g10.1 a k a1 (by omega), hT.1 a k a2 a5]
    · intro a k a1 a2
      rw [g10.2.1 a k a1, hT.2.1 a k a2]
    · intro a k a1
      rw [g10.2.2.1 a k a1, hT.2.2.1 a k]
    · intro a; rw [g10.2.2.2.1 a, hT.2.2.2.1 a]
    · intro a; rw [g10.2.2.2.2.1 a, hT.2.2.2.2.1 a]
    · intro a a1 a2; rw [g10.2.2.2.2.2.1 a (by omega), hT.2.2.2.2.2 a]
theorem tk_ok (ht : CTp τ n b) (h : tnm b n = true) : okN (tk b 0 n) := by
  have hb : ∀ i, b i < 256 := fun i => by rw [← ht.2.2.2]; exact cb_lt _ _ _ _
  exact ⟨by rw [tk_len]; exact (tnm_n h).2.1, tk_lt hb 0 n⟩
theorem k_wish (hS : GS sk L) (hR : GR τ) (hF : 20 < F) (ht : CTp τ n b) (hf : CF sk L τ fs) (hn : NP sk L τ own) (hg : CG sk L τ gs) (hw : CW sk L τ ws) (hr : RMk sk L (k + 1)) (hz : gcd' b n ws = 0) : ∃ sk' L' τ' own' p, f_H_wish F c 0 (cH sk L τ) = some (nI (ws.length + 1), cH sk' L' τ') ∧ EX sk L sk' L' ∧ RMk sk' L' k ∧ GS sk' L' ∧ GR τ' ∧ CTp τ' 0 (fun _ => 0) ∧ CF sk' L' τ' fs ∧ NP sk' L' τ' own' ∧ CG sk' L' τ' gs ∧ CW sk' L' τ' (ws ++ [tk b 0 n]) ∧ 1815 ≤ p ∧ eN τ' 144 ws.length = some p ∧ frU p τ τ' := by
  obtain ⟨z1, z2, z3⟩ := gcd_0 hz
  have hl16 : ws.length ≤ 16 := hw.2.2.2.1
  have hl : ws.length < 16 := by omega
  obtain ⟨τ1, e1, e2, e3, e4, e5⟩ := k_readTapeName (F := F) (c := c) hS hR hF ht
  have hok := tk_ok ht z1
  obtain ⟨sk', L', τ', own', p, t1, t2, t3, t4, t5, t6, t7, t8, t9, t10, t11, t12, t13, t14, t15⟩ := k_tell (F := F) (c := c) hS e2 e3 e4 (e5 z1) hok hF hn (Or.inr ⟨rfl, rfl, rfl, rfl⟩) hw hg.1 hf hl z3 hr
  have c1 : CW sk L τ1 ws := CW_sh hw (SH_T e4) hn
  have g1 : CG sk L τ1 gs := CG_sh hg (SH_T e4) hn
  refine ⟨sk', L', τ', own', p, ?_, t2, t3, t4, t5, t6, t7, t8, ⟨t10, ?_⟩, t9, t12, t13, t14⟩
  · unfold f_H_wish
    rw [c_o (G0 hS), bs, e1, xb_mk, if_neg (show ¬ bI (tnm b n) = 0 by rw [z1]; decide), C0r9 (G0 hS) (R0_9 e2), bs, C0r10 (G0 hS) (R0_10 e2), bs, c_o (G143 hS), bs, k_find c1 (G146 hS) (e5 z1) hok (by omega), xb_mk, z3]
    show ((xgR (cH sk L τ1) 0 9 0).bind _) = _
    rw [C0r9 (G0 hS) (R0_9 e2), bs, C6g2 (G143 hS), bs, c1.2.2.2.2.2.1, if_pos (nI_lt hl (by decide)), bs, C0r10 (G0 hS) (R0_10 e2), bs, c_o (G143 hS), bs, t1, xb_mk, bs, C0r9 (G0 t4) (R0_9 t5), bs, C6g2 (G143 t4), bs, t9.2.2.2.2.2.1, List.length_append]
    rfl
  · intro i x hx
    have hm : (gs.map Prod.fst)[i]? = some x.1 := by rw [List.getElem?_map, hx]; rfl
    have hp : eN τ1 141 i = some ((eN τ1 141 i).getD 0) := (g1.1.2.2.2.2.2.2 i _ hm).2.1
    have he : eN τ' 141 = eN τ1 141 := t15.2.2.2.2.2.1 141 (by decide)
    have ho := (t8 141 i _ (Or.inl rfl) (by rw [he]; exact hp)).2.2
    have ho2 := (t8 144 _ p (Or.inr (Or.inl rfl)) t13).2.2
    have hne : (eN τ1 141 i).getD 0 ≠ p := by
      intro q
      rw [q, ho2] at ho
      exact absurd (show (144 : Nat) = 141 from congrArg Prod.fst ho) (by decide)
    rw [he, t15.2.1 _ 7 hne]
    exact g1.2 i x hx
theorem k_give {v : Int64} (hS : GS sk L) (hR : GR τ) (hF : 20 < F) (ht : CTp τ n b) (hf : CF sk L τ fs) (hn : NP sk L τ own) (hg : CG sk L τ gs) (hw : CW sk L τ ws) (hr : RMk sk L (k + 1)) (hz : gcd' b n (gs.map Prod.fst) = 0) : ∃ sk' L' τ' own' p, f_H_give F c 0 v (cH sk L τ) = some (nI (gs.length + 1), cH sk' L' τ') ∧ EX sk L sk' L' ∧ RMk sk' L' k ∧ GS sk' L' ∧ GR τ' ∧ CTp τ' 0 (fun _ => 0) ∧ CF sk' L' τ' fs ∧ NP sk' L' τ' own' ∧ CG sk' L' τ' (gs ++ [(tk b 0 n, v)]) ∧ CW sk' L' τ' ws ∧ 1815 ≤ p ∧ eN τ' 141 gs.length = some p ∧ frU p τ τ' := by
  obtain ⟨z1, z2, z3⟩ := gcd_0 hz
  have hlm : (gs.map Prod.fst).length = gs.length := List.length_map _
  have hl16 : (gs.map Prod.fst).length ≤ 16 := hg.1.2.2.2.1
  have hl : (gs.map Prod.fst).length < 16 := by omega
  obtain ⟨τ1, e1, e2, e3, e4, e5⟩ := k_readTapeName (F := F) (c := c) hS hR hF ht
  have hok := tk_ok ht z1
  obtain ⟨sk', L', τ2, own', p, t1, t2, t3, t4, t5, t6, t7, t8, t9, t10, t11, t12, t13, t14, t15⟩ := k_tell (F := F) (c := c) hS e2 e3 e4 (e5 z1) hok hF hn (Or.inl ⟨rfl, rfl, rfl, rfl⟩) hg.1 hw hf hl z3 hr
  have g1 : CG sk L τ1 gs := CG_sh hg (SH_T e4) hn
  obtain ⟨τ', hτ'⟩ : ∃ x, x = tJ τ2 p 7 v := ⟨_, rfl⟩
  have hJ : ∀ a k, (a ≠ p ∨ k ≠ 7) → fJ τ' a k = fJ τ2 a k := fun a k h => by rw [hτ']; exact tJ_ne h
  have hJp : fJ τ' p 7 = v := by rw [hτ']; exact tJ_at
  have hI : ∀ a k, fI τ' a k = fI τ2 a k := fun a k => by rw [hτ']; rfl
  have hN : ∀ a k, fN τ' a k = fN τ2 a k := fun a k => by rw [hτ']; rfl
  have hE : ∀ a, eN τ' a = eN τ2 a := fun a => by rw [hτ']; rfl
  have hEI : ∀ a, eI τ' a = eI τ2 a := fun a => by rw [hτ']; rfl
  have hEJ : ∀ a, eJ τ' a = eJ τ2 a := fun a => by rw [hτ']; rfl
  have mv : ∀ {N A : Nat} {vs : List (List Nat)}, CN sk' L' τ2 N A vs → CN sk' L' τ' N A vs := fun h => CN_mv h EX_refl (hN _ _) (hI _ _) (fun i _ => by rw [hE]) (fun i q _ _ => ⟨fun k hk => hJ q k (Or.inr (by omega)), hI q 3⟩)
  refine ⟨sk', L', τ', own', p, ?_, t2, t3, t4, ?_, ?_, ?_, ?_, ⟨?_, ?_⟩, mv t10, t12, ?_, ?_⟩
  · unfold f_H_give
    rw [c_o (G0 hS), bs, e1, xb_mk, if_neg (show ¬ bI (tnm b n) = 0 by rw [z1]; decide), C0r8 (G0 hS) (R0_8 e2), bs, C0r10 (G0 hS) (R0_10 e2), bs, c_o (G140 hS), bs, k_find g1.1 (G146 hS) (e5 z1) hok (by omega), xb_mk, z3]
    show ((xgR (cH sk L τ1) 0 8 0).bind _) = _
    rw [C0r8 (G0 hS) (R0_8 e2), bs, C6g2 (G140 hS), bs, g1.1.2.2.2.2.2.1, if_pos (nI_lt hl (by decide)), bs, C0r10 (G0 hS) (R0_10 e2), bs, c_o (G140 hS), bs, t1, xb_mk, bs, C5p7 t11, bs, ← hτ', C0r8 (G0 t4) ((hN 0 8).trans (R0_8 t5)), bs, C6g2 (G140 t4), bs, hI, t9.2.2.2.2.2.1, List.length_append, hlm]
    rfl
  · exact GR_mv t5 (fun a k _ => hN a k) (fun a k _ _ => hI a k) (hE 9) (hE 151)
  · unfold CTp
    rw [hI, hEI]; exact t6
  · exact CF_mv t7 EX_refl ⟨fun a k _ _ => hI a k, fun a k _ => hN a k, fun a _ => hEI a⟩
  · intro A i q hA hq
    rw [hE] at hq
    exact t8 A i q hA hq
  · rw [List.map_append]
    exact mv t9
  · intro i x hx
    rw [hE]
    by_cases ci : i < gs.length
    · rw [List.getElem?_append_left ci] at hx
      have hm : (gs.map Prod.fst)[i]? = some x.1 := by rw [List.getElem?_map, hx]; rfl
      have hp : eN τ1 141 i = some ((eN τ1 141 i).getD 0) := (g1.1.2.2.2.2.2.2 i _ hm).2.1
      have he : eN τ2 141 i = eN τ1 141 i := t15.2.2.2.2.2.2 i (by omega)
      have ho := (t8 141 i _ (Or.inl rfl) (by rw [he]; exact hp)).2.2
      have ho2 := (t8 141 _ p (Or.inl rfl) t13).2.2
      have hne : (eN τ1 141 i).getD 0 ≠ p := by
        intro q
        rw [q, ho2] at ho
        have := congrArg Prod.snd ho
        exact absurd this (by show ¬ (gs.map Prod.fst).length = i; omega)
      rw [he, hJ _ _ (Or.inl hne), t15.2.1 _ 7 hne]
      exact g1.2 i x hx
    · have hi : i = gs.length := by
        have := (List.getElem?_eq_some_iff.mp hx).1
        rw [List.length_append] at this
        have h1 : [(tk b 0 n, v)].length = 1 := rfl
        omega
      rw [hi, List.getElem?_append_right (Nat.le_refl _), Nat.sub_self] at hx
      have hx2 : x = (tk b 0 n, v) := (Option.some.inj hx).symm
      rw [hi, ← hlm, t13, hx2]
      exact hJp
  · rw [hE, ← hlm]; exact t13
  · refine ⟨fun a k a1 a2 a3 a4 a5 => (hI a k).trans (t14.1 a k a1 a2 a3 a4 a5), fun a k a1 a2 => (hJ a k (Or.inl a1)).trans (t14.2.1 a k a1 a2), fun a k a1 => (hN a k).trans (t14.2.2.1 a k a1), fun a => (hEI a).trans (t14.2.2.2.1 a), fun a => (hEJ a).trans (t14.2.2.2.2.1 a), fun a a1 a2 => (hE a).trans (t14.2.2.2.2.2 a a1 a2)⟩
theorem CN_nil {N A : Nat} (h : CN sk L τ N A ws) (hN0 : fN τ' N 0 = fN τ N 0) (h2 : fI τ' N 2 = nI 0) : CN sk L τ' N A [] := by
  obtain ⟨s1, s2, s3, s4, s5, s6, s7⟩ := h
  exact ⟨s1, hN0.trans s2, s3, Nat.zero_le _, s5, h2, fun i w hw => by rw [List.getElem?_nil] at hw; cases hw⟩
theorem k_forget (hS : GS sk L) (hR : GR τ) (hg : CG sk L τ gs) (hw : CW sk L τ ws) : ∃ τ', f_H_forget F c 0 (cH sk L τ) = some ((), cH sk L τ') ∧ GR τ' ∧ CG sk L τ' [] ∧ CW sk L τ' [] ∧ (∀ a k, (a ≠ 140 ∨ k ≠ 2) → (a ≠ 143 ∨ k ≠ 2) → fI τ' a k = fI τ a k) ∧ τ'.2 = τ.2 := by
  have hR1 : GR (tI τ 140 2 (nI 0)) := GR_I hR (by omega)
  refine ⟨tI (tI τ 140 2 (nI 0)) 143 2 (nI 0), ?_, GR_I hR1 (by omega), ⟨?_, ?_⟩, ?_, ?_, rfl⟩
  · unfold f_H_forget
    rw [C0r8 (G0 hS) (R0_8 hR), bs, C6p2 (G140 hS), bs, C0r9 (G0 hS) (R0_9 hR1), bs, C6p2 (G143 hS), bs]
  · exact CN_nil hg.1 rfl ((tI_ne (Or.inl (by decide))).trans tI_at)
  · intro i x hx; rw [List.getElem?_nil] at hx; cases hx
  · exact CN_nil hw rfl tI_at
  · intro a k h1 h2
    rw [tI_ne h2, tI_ne h1]
end CGV
end
section
/-! the reference's names of a link: find, entered -/
/-- the names of a link, as the reference has them -/
def RNm (σ : px_S) (ws : List (List Nat)) : Prop := gI σ 20 = nI ws.length ∧ ws.length ≤ 4096 ∧ ∀ i w, ws[i]? = some w → okN w ∧ gA σ 22 i = nI w.length ∧ ∀ j x, w[j]? = some x → gA σ 21 (20 * i + j) = (nI x).toInt8.toInt32
/-- the bytes w stand in T from p on -/
def srcT (T : Nat → Int32) (p : Nat) (w : List Nat) : Prop := ∀ j x, w[j]? = some x → T (p + j) = (nI x).toInt8.toInt32
theorem drop_eq {v w : List Nat} {k : Nat} (h : k < v.length) (hl : v.length = w.length) : v.drop k = w.drop k ↔ v[k]? = w[k]? ∧ v.drop (k + 1) = w.drop (k + 1) := by
  have h2 : k < w.length := by omega
  rw [List.drop_eq_getElem_cons h, List.drop_eq_getElem_cons h2, List.getElem?_eq_getElem h, List.getElem?_eq_getElem h2, List.cons.injEq, Option.some.injEq]
theorem byte_inj {x y : Nat} (hx : x < 256) (hy : y < 256) : (nI x).toInt8.toInt32 = (nI y).toInt8.toInt32 ↔ x = y := by
  rw [isB_inj (isB_n8 y hy) hx, b8_n y hy]
section MNM
variable {F m : Nat} {h : px_H} {σ : px_S} {pa p M : Nat} {T : Nat → Int32} {ws : List (List Nat)} {v w : List Nat} {k3 : Nat → Nat → Int32 → Int32 → Int32 → px_H → Option (Int32 × px_H)}
theorem q_find_35f (hm : m ≤ h.length) (hr : RNm σ ws) {i k f : Nat} {y z : Int32} (hv : ws[i]? = some v) (hf : 0 < f) : f_M_find_35 F k3 f m pa y z (nI i) (bI false) (nI k) (mh m h σ) = k3 m pa y z (nI (i + 1)) (mh m h σ) := by
  obtain ⟨f, rfl⟩ : ∃ x, f = x + 1 := ⟨f - 1, by omega⟩
  have hi : i < ws.length := (List.getElem?_eq_some_iff.mp hv).1
  have hl := hr.2.1
  unfold f_M_find_35 f_M_find_87
  rw [Mr22 hm, bs, Ma22 hm (by omega), bs, if_pos (show bI false = 0 from rfl), nI_add]
  split
  · rfl
  · rfl
theorem q_find_35 (hm : m ≤ h.length) (hr : RNm σ ws) (hT : ∀ i, i < M → xaI (mh m h σ) 0 pa (nI i) = some (T i)) (hs : srcT T p w) (hw : ∀ x, x ∈ w → x < 256) (hM : p + w.length ≤ M) {i : Nat} {z : Int32} (hv : ws[i]? = some v) (hl : v.length = w.length) : ∀ (d k f : Nat), k + d = v.length → d < f → f_M_find_35 F k3 f m pa (nI p) z (nI i) (bI true) (nI k) (mh m h σ) = (if v.drop k = w.drop k then some (nI i, mh m h σ) else k3 m pa (nI p) z (nI (i + 1)) (mh m h σ)) := by
  have hi : i < ws.length := (List.getElem?_eq_some_iff.mp hv).1
  have hwl := hr.2.1
  obtain ⟨ok, e1, e2⟩ := hr.2.2 i v hv
  have ok1 := ok.1
  intro d
  induction d with
  | zero =>
    intro k f hk hf
    obtain ⟨f, rfl⟩ : ∃ x, f = x + 1 := ⟨f - 1, by omega⟩
    unfold f_M_find_35 f_M_find_87 f_M_find_92
    rw [Mr22 hm, bs, Ma22 hm (by omega), bs, e1, if_pos (nI_le (by omega) (by omega)), if_neg (show ¬ bI true = 0 by decide), List.drop_eq_nil_of_le (by omega), List.drop_eq_nil_of_le (by omega), if_pos rfl]
  | succ d ih =>
    intro k f hk hf
    obtain ⟨f, rfl⟩ : ∃ x, f = x + 1 := ⟨f - 1, by omega⟩
    have hkv : k < v.length := by omega
    obtain ⟨x, hx⟩ : ∃ x, v[k]? = some x := ⟨v[k], List.getElem?_eq_getElem hkv⟩
    obtain ⟨y, hy⟩ : ∃ y, w[k]? = some y := ⟨w[k]'(by omega), List.getElem?_eq_getElem (by omega)⟩
    have hx2 := ok.2 x (List.mem_of_getElem? hx)
    have hy2 := hw y (List.mem_of_getElem? hy)
    unfold f_M_find_35 f_M_find_79
    rw [Mr22 hm, bs, Ma22 hm (by omega), bs, e1, if_neg (nI_ge (by omega) (by omega)), if_neg (show ¬ bI true = 0 by decide), Mr21 hm, bs, pk_mul, nI_add, Ma21 hm (by omega), bs, e2 k x hx, nI_add, hT (p + k) (by omega), bs, hs k y hy, nI_add]
    by_cases c : x = y
    · rw [if_pos (by rw [c]), show nI 1 = bI true from rfl, ih (k + 1) f (by omega) (by omega)]
      by_cases c2 : v.drop (k + 1) = w.drop (k + 1)
      · rw [if_pos c2, if_pos ((drop_eq hkv hl).mpr ⟨by rw [hx, hy, c], c2⟩)]
      · rw [if_neg c2, if_neg (fun q => c2 ((drop_eq hkv hl).mp q).2)]
    · rw [if_neg (fun q => c ((byte_inj hx2 hy2).mp q)), show nI 0 = bI false from rfl, q_find_35f hm hr hv (by omega), if_neg (fun q => c (by
        have := ((drop_eq hkv hl).mp q).1
        rw [hx, hy] at this
        exact Option.some.inj this))]
theorem q_find_3 (hm : m ≤ h.length) (hF : 20 < F) (hr : RNm σ ws) (hT : ∀ i, i < M → xaI (mh m h σ) 0 pa (nI i) = some (T i)) (hs : srcT T p w) (hw : ∀ x, x ∈ w → x < 256) (hM : p + w.length ≤ M) (hM2 : M < 2 ^ 31) : ∀ (d i f : Nat), i + d = ws.length → d < f → f_M_find_3 F f m pa (nI p) (nI (p + w.length)) (nI i) (mh m h σ) = some (tdA (idx w i (ws.drop i)), mh m h σ) := by
  have hl := hr.2.1
  intro d
  induction d with
  | zero =>
    intro i f hi hf
    obtain ⟨f, rfl⟩ : ∃ x, f = x + 1 := ⟨f - 1, by omega⟩
    unfold f_M_find_3 f_M_find_101
    rw [Mg20 hm, bs, hr.1, if_pos (nI_le (by omega) (by omega)), List.drop_eq_nil_of_le (by omega)]
    rfl
  | succ d ih =>
    intro i f hi hf
    obtain ⟨f, rfl⟩ : ∃ x, f = x + 1 := ⟨f - 1, by omega⟩
    have hil : i < ws.length := by omega
    obtain ⟨v, hv⟩ : ∃ v, ws[i]? = some v := ⟨ws[i], List.getElem?_eq_getElem hil⟩
    have hd : ws.drop i = v :: ws.drop (i + 1) := by
      rw [List.drop_eq_getElem_cons hil]
      rw [List.getElem?_eq_getElem hil] at hv
      cases hv
      rfl
    obtain ⟨ok, e1, e2⟩ := hr.2.2 i v hv
    have ok1 := ok.1
    unfold f_M_find_3 f_M_find_30
    rw [Mg20 hm, bs, hr.1, if_neg (nI_ge (by omega) (by omega)), Mr22 hm, bs, Ma22 hm (by omega), bs, e1, pk_sub (by omega), Nat.add_sub_cancel_left, hd]
    unfold idx
    by_cases c : v.length = w.length
    · rw [if_pos (by rw [c]), show nI 1 = bI true from rfl, q_find_35 hm hr hT hs hw hM hv c v.length 0 F (by omega) (by omega), List.drop_zero, List.drop_zero]
      by_cases c2 : v = w
      · rw [if_pos c2, if_pos c2]
        rfl
      · rw [if_neg c2, if_neg c2, ih (i + 1) f (by omega) (by omega)]
    · have := q_find_35f (F := F) (pa := pa) (k3 := f_M_find_3 F f) (k := 0) (y := nI p) (z := nI (p + w.length)) hm hr hv (f := F) (by omega)
      rw [show bI false = nI 0 from rfl] at this
      rw [if_neg (fun q => c ((nI_eq (by omega) (by omega)).mp q)), this, if_neg (fun q => c (by rw [q])), ih (i + 1) f (by omega) (by omega)]
theorem q_find (hm : m ≤ h.length) (hF : 4096 < F) (hr : RNm σ ws) (hT : ∀ i, i < M → xaI (mh m h σ) 0 pa (nI i) = some (T i)) (hs : srcT T p w) (hw : ∀ x, x ∈ w → x < 256) (hM : p + w.length ≤ M) (hM2 : M < 2 ^ 31) : f_M_find F m pa (nI p) (nI (p + w.length)) (mh m h σ) = some (tdA (idx w 0 ws), mh m h σ) := by
  have := hr.2.1
  unfold f_M_find
  rw [q_find_3 hm (by omega) hr hT hs hw hM hM2 ws.length 0 F (by omega) (by omega), List.drop_zero]
/-- the place of w in ws, or behind them -/
def plc (w : List Nat) (ws : List (List Nat)) : Nat := (idx w 0 ws).getD ws.length
/-- the names with w among them -/
def ent (w : List Nat) (ws : List (List Nat)) : List (List Nat) := if (idx w 0 ws).isSome = true then ws else ws ++ [w]
/-- a new name's fields -/
def frI (c : Nat) (σ σ' : px_S) : Prop := (∀ k, k ≠ 20 → gI σ' k = gI σ k) ∧ (∀ k, gJ σ' k = gJ σ k) ∧ (∀ k, k ≠ 21 → k ≠ 22 → k ≠ 23 → k ≠ 24 → k ≠ 28 → k ≠ 73 → gA σ' k = gA σ k) ∧ (∀ k, k ≠ 30 → gB σ' k = gB σ k) ∧ gA σ' 23 = upd (gA σ 23) c (nI 0) ∧ gA σ' 24 = upd (gA σ 24) c (Int32.ofInt (-1)) ∧ gA σ' 28 = upd (gA σ 28) c (nI 0) ∧ gA σ' 73 = upd (gA σ 73) c (nI 0) ∧ gB σ' 30 = vp_updL (gB σ 30) c (lN 0)
theorem q_entered_36 {ks c : Nat} (hm : m ≤ h.length) (hT : ∀ (σ : px_S) i, i < M → xaI (mh m h σ) 0 pa (nI i) = some (gA σ ks i)) (hks : ks ≠ 21) (hc : c < 4096) (hw : okN w) (hM : p + w.length ≤ M) : ∀ (d k f : Nat) (σ : px_S) (B : Nat → Int32), k + d = w.length → d < f → gA σ 22 c = nI w.length → srcT (gA σ ks) p w → gA σ 21 = put B (fun j => gA σ ks (p + j)) (20 * c) k → f_M_entered_36 F f m pa (nI p) (nI c) (nI k) (mh m h σ) = f_M_entered_73 F m (nI c) (mh m h (sA σ 21 (put B (fun j => gA σ ks (p + j)) (20 * c) w.length))) := by
  have hwl := hw.1
  intro d
  induction d with
  | zero =>
    intro k f σ B hk hf h22 hs h21
    obtain ⟨f, rfl⟩ : ∃ x, f = x + 1 := ⟨f - 1, by omega⟩
    unfold f_M_entered_36
    rw [Mr22 hm, bs, Ma22 hm (by omega), bs, h22, if_pos (nI_le (by omega) (by omega)), show w.length = k by omega, ← h21, sA_self]
  | succ d ih =>
    intro k f σ B hk hf h22 hs h21
    obtain ⟨f, rfl⟩ : ∃ x, f = x + 1 := ⟨f - 1, by omega⟩
    obtain ⟨y, hy⟩ : ∃ y, w[k]? = some y := ⟨w[k]'(by omega), List.getElem?_eq_getElem (by omega)⟩
    have hB : isB (gA σ ks (p + k)) := by
      rw [hs k y hy]
      exact isB_n8 y (hw.2 y (List.mem_of_getElem? hy))
    have e : gA (sA σ 21 (put B (fun j => gA σ ks (p + j)) (20 * c) (k + 1))) ks = gA σ ks := by rw [gA_sA, if_neg hks]
    have hps := put_s B (fun j => gA σ ks (p + j)) (20 * c) k
    unfold f_M_entered_36
    rw [Mr22 hm, bs, Ma22 hm (by omega), bs, h22, if_neg (nI_ge (by omega) (by omega)), Mr21 hm, bs, nI_add, hT σ (p + k) (by omega), bs, pk_mul, nI_add, isB_n hB, Ms21 hm (by omega), bs, h21]
    rw [show upd (put B (fun j => gA σ ks (p + j)) (20 * c) k) (20 * c + k) (gA σ ks (p + k)) = _ from hps, nI_add]
    have := ih (k + 1) f (sA σ 21 (put B (fun j => gA σ ks (p + j)) (20 * c) (k + 1))) B (by omega) (by omega) h22 (by rw [e]; exact hs) (by rw [e]; rfl)
    rw [e, sA_sA] at this
    exact this
theorem q_entered {ks : Nat} (hm : m ≤ h.length) (hF : 4096 < F) (hr : RNm σ ws) (hT : ∀ (σ : px_S) i, i < M → xaI (mh m h σ) 0 pa (nI i) = some (gA σ ks i)) (hks : ks ≠ 21) (hks2 : ks ≠ 22) (hw : okN w) (hs : srcT (gA σ ks) p w) (hM : p + w.length ≤ M) (hM2 : M < 2 ^ 31) (hl : ws.length < 4096) : ∃ σ', f_M_entered F m pa (nI p) (nI (p + w.length)) (mh m h σ) = some (nI (plc w ws), mh m h σ') ∧ RNm σ' (ent w ws) ∧ ((idx w 0 ws).isSome = true → σ' = σ) ∧ ((idx w 0 ws).isSome = false → frI ws.length σ σ') := by
  have hwl := hw.1
  unfold f_M_entered
  rw [e_o hm, bs, q_find hm hF hr (hT σ) hs hw.2 hM hM2, xb_mk]
  unfold plc ent
  cases e : idx w 0 ws with
  | some i =>
    have hi := idx_lt e
    rw [if_neg (show ¬ tdA (some i) < 0 from nI_pos (by omega))]
    exact ⟨σ, rfl, hr, fun _ => rfl, fun q => nomatch q⟩
  | none =>
    rw [if_pos (show tdA none < 0 from m1_neg), Mg20 hm, bs, hr.1, Mr22 hm, bs, pk_sub (by omega), Nat.add_sub_cancel_left, Ms22 hm hl, bs]
    obtain ⟨σ1, hσ1⟩ : ∃ s, s = sA σ 22 (upd (gA σ 22) ws.length (nI w.length)) := ⟨_, rfl⟩
    have k1 : gA σ1 ks = gA σ ks := by rw [hσ1, gA_sA, if_neg hks2]
    have k2 : gA σ1 21 = gA σ 21 := by rw [hσ1, gA_sA, if_neg (by decide)]
    have k3 : gA σ1 22 = upd (gA σ 22) ws.length (nI w.length) := by rw [hσ1, gA_sA, if_pos rfl]
    rw [← hσ1, q_entered_36 (F := F) (σ := σ1) hm hT hks hl hw hM w.length 0 F (gA σ 21) (by omega) (by omega) (by rw [k3, upd_eq]) (by rw [k1]; exact hs) (by rw [k2]; exact (put_0 _ _ _).symm)]
    unfold f_M_entered_73
    rw [Mr23 hm, bs, Ms23 hm hl, bs, Mr28 hm, bs, show nI 0 &&& 1 = nI 0 from rfl, Ms28 hm hl, bs, Mr73 hm, bs, Ms73 hm hl, bs, Mr24 hm, bs, Ms24 hm hl, bs, Mr30 hm, bs, Ms30 hm hl, bs, Mg20 hm, bs]
    obtain ⟨B, hB⟩ : ∃ B, B = put (gA σ 21) (fun j => gA σ1 ks (p + j)) (20 * ws.length) w.length := ⟨_, rfl⟩
    rw [← hB]
    have g20 : gI σ1 20 = nI ws.length := by rw [hσ1]; exact hr.1
    rw [gI_sB, gI_sA, gI_sA, gI_sA, gI_sA, gI_sA, g20, nI_add, Mp20 hm, bs]
    refine ⟨_, rfl, show RNm _ (ws ++ [w]) from ⟨?_, ?_, ?_⟩, fun q => (nomatch q), fun _ => ?_⟩
    · rw [List.length_append]; rfl
    · rw [List.length_append]; exact hl
    · intro i v hv
      show okN v ∧ gA σ1 22 i = nI v.length ∧ ∀ j x, v[j]? = some x → B (20 * i + j) = (nI x).toInt8.toInt32
      rw [k3, hB]
      by_cases ci : i < ws.length
      · rw [List.getElem?_append_left ci] at hv
        obtain ⟨a1, a2, a3⟩ := hr.2.2 i v hv
        refine ⟨a1, by rw [upd_ne (by omega)]; exact a2, fun j x hx => ?_⟩
        have hj : j < v.length := (List.getElem?_eq_some_iff.mp hx).1
        have := a1.1
        unfold put
        rw [if_neg (by omega)]
        exact a3 j x hx
      · have hi : i = ws.length := by
          have := (List.getElem?_eq_some_iff.mp hv).1
          rw [List.length_append] at this
          have h1 : [w].length = 1 := rfl
          omega
        rw [hi, List.getElem?_append_right (Nat.le_refl _), Nat.sub_self] at hv
        have hv2 : v = w := (Option.some.inj hv).symm
        rw [hi, hv2]
        refine ⟨hw, upd_eq, fun j x hx => ?_⟩
        have hj : j < w.length := (List.getElem?_eq_some_iff.mp hx).1
        unfold put
        rw [if_pos (by omega), Nat.add_sub_cancel_left, k1]
        exact hs j x hx
    · subst hσ1
      refine ⟨fun k hk => by rw [gI_sI, if_neg hk]; rfl, fun _ => rfl, fun k a1 a2 a3 a4 a5 a6 => ?_, fun k hk => ?_, rfl, rfl, rfl, rfl, rfl⟩
      · simp only [gA_sI, gA_sB, gA_sA, if_neg a1, if_neg a2, if_neg a3, if_neg a4, if_neg a5, if_neg a6]
      · simp only [gB_sI, gB_sB, gB_sA, if_neg hk]
end MNM
end
section
/-! a link's names with what is known of them: text, then (strength, wanted, own, (object, symbol), given, common size, common value) -/
abbrev px_NR : Type := Nat × Bool × Nat × Option (Nat × Nat) × Int64 × Nat × Nat
abbrev px_NL : Type := List (List Nat × px_NR)
def nr0 : px_NR := (0, false, 0, none, lN 0, 0, 0)
def rBy (σ : px_S) (i : Nat) : Option (Nat × Nat) → Prop
  | none => gA σ 24 i = Int32.ofInt (-1)
  | some q => gA σ 24 i = nI q.1 ∧ gA σ 25 i = nI q.2
def rrec (σ : px_S) (i : Nat) (r : px_NR) : Prop := gA σ 23 i = nI r.1 ∧ gA σ 28 i = bI r.2.1 ∧ gA σ 73 i = nI r.2.2.1 ∧ rBy σ i r.2.2.2.1 ∧ gB σ 30 i = r.2.2.2.2.1 ∧ (r.1 = 2 → gA σ 26 i = nI r.2.2.2.2.2.1 ∧ gA σ 27 i = nI r.2.2.2.2.2.2)
def RL (σ : px_S) (xs : px_NL) : Prop := RNm σ (xs.map Prod.fst) ∧ ∀ i x, xs[i]? = some x → rrec σ i x.2
def entL (w : List Nat) (xs : px_NL) : px_NL := if (idx w 0 (xs.map Prod.fst)).isSome = true then xs else xs ++ [(w, nr0)]
theorem rBy_eq {σ σ' : px_S} {i : Nat} {q : Option (Nat × Nat)} (h : rBy σ i q) (h24 : gA σ' 24 i = gA σ 24 i) (h25 : gA σ' 25 i = gA σ 25 i) : rBy σ' i q := by
  cases q with
  | none => exact h24.trans h
  | some q => exact ⟨h24.trans h.1, h25.trans h.2⟩
theorem rrec_eq {σ σ' : px_S} {i : Nat} {r : px_NR} (h : rrec σ i r) (hA : ∀ k, (k = 23 ∨ k = 24 ∨ k = 25 ∨ k = 26 ∨ k = 27 ∨ k = 28 ∨ k = 73) → gA σ' k i = gA σ k i) (hB : gB σ' 30 i = gB σ 30 i) : rrec σ' i r := by
  obtain ⟨a1, a2, a3, a4, a5, a6⟩ := h
  refine ⟨(hA 23 (by omega)).trans a1, (hA 28 (by omega)).trans a2, (hA 73 (by omega)).trans a3, rBy_eq a4 (hA 24 (by omega)) (hA 25 (by omega)), hB.trans a5, fun q => ?_⟩
  rw [hA 26 (by omega), hA 27 (by omega)]
  exact a6 q
theorem RNm_eq {σ σ' : px_S} {ws : List (List Nat)} (h : RNm σ ws) (h20 : gI σ' 20 = gI σ 20) (h21 : gA σ' 21 = gA σ 21) (h22 : gA σ' 22 = gA σ 22) : RNm σ' ws := by
  unfold RNm at h ⊢
  rw [h20, h21, h22]; exact h
theorem idx_some {w : List Nat} : ∀ {l : List (List Nat)} {k i : Nat}, idx w k l = some i → l[i - k]? = some w
  | [], k, i, h => nomatch h
  | v :: l, k, i, h => by
    unfold idx at h
    by_cases c : v = w
    · rw [if_pos c] at h
      cases h
      rw [Nat.sub_self, c]; rfl
    · rw [if_neg c] at h
      have h1 := idx_lt h
      have h2 := idx_some h
      rw [show i - k = (i - (k + 1)) + 1 by omega]
      exact h2
theorem plc_at {w : List Nat} {xs : px_NL} : ∃ r, (entL w xs)[plc w (xs.map Prod.fst)]? = some (w, r) ∧ plc w (xs.map Prod.fst) < (entL w xs).length := by
  unfold plc entL
  cases e : idx w 0 (xs.map Prod.fst) with
  | some i =>
    have h1 := idx_lt e
    have h2 := idx_some e
    rw [Nat.sub_zero, List.getElem?_map] at h2
    rw [List.length_map] at h1
    obtain ⟨x, hx⟩ : ∃ x, xs[i]? = some x := ⟨xs[i]'(by omega), List.getElem?_eq_getElem (by omega)⟩
    rw [hx] at h2
    have h3 : x.1 = w := Option.some.inj h2
    refine ⟨x.2, ?_, ?_⟩
    · show xs[i]? = _
      rw [hx, ← h3]
    · show i < xs.length
      omega
  | none =>
    refine ⟨nr0, ?_, ?_⟩
    · show (xs ++ [(w, nr0)])[(xs.map Prod.fst).length]? = _
      rw [List.length_map, List.getElem?_append_right (Nat.le_refl _), Nat.sub_self]; rfl
    · show (xs.map Prod.fst).length < (xs ++ [(w, nr0)]).length
      rw [List.length_map, List.length_append]
      exact Nat.lt_succ_self _
/-- only the names' rows and their number have changed -/
def frJ (σ σ' : px_S) : Prop := (∀ k, k ≠ 20 → gI σ' k = gI σ k) ∧ (∀ k, gJ σ' k = gJ σ k) ∧ (∀ k, k ≠ 21 → k ≠ 22 → k ≠ 23 → k ≠ 24 → k ≠ 28 → k ≠ 73 → gA σ' k = gA σ k) ∧ (∀ k, k ≠ 30 → gB σ' k = gB σ k)
theorem RL_set {σ σ' : px_S} {xs : px_NL} {i : Nat} {w : List Nat} {r r' : px_NR} (h : RL σ xs) (hx : xs[i]? = some (w, r)) (h20 : gI σ' 20 = gI σ 20) (h21 : gA σ' 21 = gA σ 21) (h22 : gA σ' 22 = gA σ 22) (hA : ∀ k j, (k = 23 ∨ k = 24 ∨ k = 25 ∨ k = 26 ∨ k = 27 ∨ k = 28 ∨ k = 73) → j ≠ i → gA σ' k j = gA σ k j) (hB : ∀ j, j ≠ i → gB σ' 30 j = gB σ 30 j) (hr : rrec σ' i r') : RL σ' (xs.set i (w, r')) := by
  have hi : i < xs.length := (List.getElem?_eq_some_iff.mp hx).1
  have hm : (xs.set i (w, r')).map Prod.fst = xs.map Prod.fst := by
    apply List.ext_getElem?
    intro j
    rw [List.getElem?_map, List.getElem?_map]
    by_cases c : i = j
    · rw [← c, List.getElem?_set_self hi, hx]; rfl
    · rw [List.getElem?_set_ne c]
  refine ⟨by rw [hm]; exact RNm_eq h.1 h20 h21 h22, fun j x hj => ?_⟩
  by_cases c : i = j
  · rw [← c, List.getElem?_set_self hi] at hj
    have : x = (w, r') := (Option.some.inj hj).symm
    rw [this, ← c]; exact hr
  · rw [List.getElem?_set_ne c] at hj
    exact rrec_eq (h.2 j x hj) (fun k hk => hA k j hk (fun q => c q.symm)) (hB j (fun q => c q.symm))
section MTL
variable {F m : Nat} {h : px_H} {σ : px_S} {pa p M ks : Nat} {xs : px_NL} {w : List Nat}
theorem q_enteredL (hm : m ≤ h.length) (hF : 4096 < F) (hr : RL σ xs) (hT : ∀ (σ : px_S) i, i < M → xaI (mh m h σ) 0 pa (nI i) = some (gA σ ks i)) (hks : ks ≠ 21) (hks2 : ks ≠ 22) (hw : okN w) (hs : srcT (gA σ ks) p w) (hM : p + w.length ≤ M) (hM2 : M < 2 ^ 31) (hl : xs.length < 4096) : ∃ σ', f_M_entered F m pa (nI p) (nI (p + w.length)) (mh m h σ) = some (nI (plc w (xs.map Prod.fst)), mh m h σ') ∧ RL σ' (entL w xs) ∧ frJ σ σ' := by
  obtain ⟨σ', e1, e2, e3, e4⟩ := q_entered (F := F) hm hF hr.1 hT hks hks2 hw hs hM hM2 (by rw [List.length_map]; exact hl)
  refine ⟨σ', e1, ?_, ?_⟩
  · unfold entL ent at *
    by_cases c : (idx w 0 (xs.map Prod.fst)).isSome = true
    · rw [if_pos c] at e2 ⊢
      rw [e3 c]; exact hr
    · rw [if_neg c] at e2 ⊢
      obtain ⟨f1, f2, f3, f4, f5, f6, f7, f8, f9⟩ := e4 (Bool.eq_false_iff.mpr c)
      rw [List.length_map] at f5 f6 f7 f8 f9
      refine ⟨by rw [List.map_append]; exact e2, fun i x hx => ?_⟩
      by_cases ci : i < xs.length
      · rw [List.getElem?_append_left ci] at hx
        have hne : i ≠ xs.length := by omega
        refine rrec_eq (hr.2 i x hx) (fun k hk => ?_) (by rw [f9]; unfold vp_updL; exact if_neg hne)
        rcases hk with e | e | e | e | e | e | e
        · rw [e, f5, upd_ne hne]
        · rw [e, f6, upd_ne hne]
        · rw [e, f3 25 (by decide) (by decide) (by decide) (by decide) (by decide) (by decide)]
        · rw [e, f3 26 (by decide) (by decide) (by decide) (by decide) (by decide) (by decide)]
        · rw [e, f3 27 (by decide) (by decide) (by decide) (by decide) (by decide) (by decide)]
        · rw [e, f7, upd_ne hne]
        · rw [e, f8, upd_ne hne]
      · have hi : i = xs.length := by
          have := (List.getElem?_eq_some_iff.mp hx).1
          rw [List.length_append] at this
          have h1 : [(w, nr0)].length = 1 := rfl
          omega
        rw [hi, List.getElem?_append_right (Nat.le_refl _), Nat.sub_self] at hx
        have hx2 : x = (w, nr0) := (Option.some.inj hx).symm
        rw [hi, hx2]
        refine ⟨by rw [f5, upd_eq]; rfl, by rw [f7, upd_eq]; rfl, by rw [f8, upd_eq]; rfl, ?_, by rw [f9]; unfold vp_updL; exact if_pos rfl, fun q => nomatch q⟩
        show gA σ' 24 xs.length = _
        rw [f6, upd_eq]
  · by_cases c : (idx w 0 (xs.map Prod.fst)).isSome = true
    · rw [e3 c]
      exact ⟨fun _ _ => rfl, fun _ => rfl, fun _ _ _ _ _ _ _ => rfl, fun _ _ => rfl⟩
    · obtain ⟨f1, f2, f3, f4, f5⟩ := e4 (Bool.eq_false_iff.mpr c)
      exact ⟨f1, f2, f3, f4⟩
end MTL
end
section
/-! tellNames of the reference -/
def setR (xs : px_NL) (i : Nat) (f : px_NR → px_NR) : px_NL := match xs[i]? with
  | some x => xs.set i (x.1, f x.2)
  | none => xs
theorem setR_at {xs : px_NL} {i : Nat} {w : List Nat} {r : px_NR} {f : px_NR → px_NR} (h : xs[i]? = some (w, r)) : setR xs i f = xs.set i (w, f r) := by
  unfold setR
  rw [h]
theorem setR_len {xs : px_NL} {i : Nat} {f : px_NR → px_NR} : (setR xs i f).length = xs.length := by
  unfold setR
  split
  · rw [List.length_set]
  · rfl
theorem entL_len {w : List Nat} {xs : px_NL} : (entL w xs).length ≤ xs.length + 1 := by
  unfold entL
  split
  · omega
  · rw [List.length_append]; exact Nat.le_refl _
/-- the order of definitions -/
def RO (σ : px_S) (od : List Nat) : Prop := gI σ 48 = nI od.length ∧ od.length ≤ 4096 ∧ ∀ i d, od[i]? = some d → gA σ 49 i = nI d
def gvR (v : Int64) (r : px_NR) : px_NR := (3, r.2.1, r.2.2.1, r.2.2.2.1, v, r.2.2.2.2.2)
def wsR (r : px_NR) : px_NR := (r.1, true, r.2.2)
def tlG : List (List Nat × Int64) → px_NL × List Nat → px_NL × List Nat
  | [], s => s
  | g :: l, s => tlG l (setR (entL g.1 s.1) (plc g.1 (s.1.map Prod.fst)) (gvR g.2), s.2 ++ [plc g.1 (s.1.map Prod.fst)])
def tlW : List (List Nat) → px_NL → px_NL
  | [], xs => xs
  | w :: l, xs => tlW l (setR (entL w xs) (plc w (xs.map Prod.fst)) wsR)
/-- only the names' rows, their number and the order of definitions have changed -/
def frK (σ σ' : px_S) : Prop := (∀ k, k ≠ 20 → k ≠ 48 → gI σ' k = gI σ k) ∧ (∀ k, gJ σ' k = gJ σ k) ∧ (∀ k, k ≠ 21 → k ≠ 22 → k ≠ 23 → k ≠ 24 → k ≠ 28 → k ≠ 73 → k ≠ 49 → gA σ' k = gA σ k) ∧ (∀ k, k ≠ 30 → gB σ' k = gB σ k)
theorem frK_refl (σ : px_S) : frK σ σ := ⟨fun _ _ _ => rfl, fun _ => rfl, fun _ _ _ _ _ _ _ _ => rfl, fun _ _ => rfl⟩
theorem frK_trans {σ σ1 σ2 : px_S} (h : frK σ σ1) (g : frK σ1 σ2) : frK σ σ2 := ⟨fun k a b => (g.1 k a b).trans (h.1 k a b), fun k => (g.2.1 k).trans (h.2.1 k), fun k a1 a2 a3 a4 a5 a6 a7 => (g.2.2.1 k a1 a2 a3 a4 a5 a6 a7).trans (h.2.2.1 k a1 a2 a3 a4 a5 a6 a7), fun k a => (g.2.2.2 k a).trans (h.2.2.2 k a)⟩
theorem RG_K {σ σ' : px_S} {gs : List (List Nat × Int64)} (h : RG σ gs) (f : frK σ σ') : RG σ' gs := by
  refine ⟨(f.1 31 (by decide) (by decide)).trans h.1, RN_eq h.2.1 (f.2.2.1 33 (by decide) (by decide) (by decide) (by decide) (by decide) (by decide) (by decide)) (f.2.2.1 35 (by decide) (by decide) (by decide) (by decide) (by decide) (by decide) (by decide)), fun i x hx => ?_⟩
  rw [f.2.2.2 37 (by decide)]; exact h.2.2 i x hx
theorem RW_K {σ σ' : px_S} {ws : List (List Nat)} (h : RW σ ws) (f : frK σ σ') : RW σ' ws := ⟨(f.1 32 (by decide) (by decide)).trans h.1, RN_eq h.2 (f.2.2.1 34 (by decide) (by decide) (by decide) (by decide) (by decide) (by decide) (by decide)) (f.2.2.1 36 (by decide) (by decide) (by decide) (by decide) (by decide) (by decide) (by decide))⟩
section MTN
variable {F m : Nat} {h : px_H}
theorem q_tW (hm : m ≤ h.length) (hF : 4096 < F) : ∀ (l : List (List Nat)) (i f : Nat) (σ : px_S) (ws : List (List Nat)) (xs : px_NL), RW σ ws → ws.drop i = l → i + l.length = ws.length → l.length < f → RL σ xs → xs.length + l.length ≤ 4096 → ∃ σ', f_M_tellNames_81 F f m (nI i) (mh m h σ) = some ((), mh m h σ') ∧ RL σ' (tlW l xs) ∧ frK σ σ' ∧ gI σ' 48 = gI σ 48 ∧ gA σ' 49 = gA σ 49 := by
  intro l
  induction l with
  | nil =>
    intro i f σ ws xs hw hd hi hf hr hl
    rw [List.length_nil] at hi hf
    obtain ⟨f, rfl⟩ : ∃ x, f = x + 1 := ⟨f - 1, by omega⟩
    have := hw.2.1
    refine ⟨σ, ?_, hr, frK_refl σ, rfl, rfl⟩
    unfold f_M_tellNames_81 f_M_tellNames_126
    rw [Mg32 hm, bs, hw.1, if_pos (nI_le (by omega) (by omega))]
  | cons w l ih =>
    intro i f σ ws xs hw hd hi hf hr hl
    rw [List.length_cons] at hi hf hl
    obtain ⟨f, rfl⟩ : ∃ x, f = x + 1 := ⟨f - 1, by omega⟩
    have h16 := hw.2.1
    have hwi : ws[i]? = some w := by
      have : (ws.drop i)[0]? = some w := by rw [hd]; rfl
      rw [List.getElem?_drop, Nat.add_zero] at this
      exact this
    have hd2 : ws.drop (i + 1) = l := by
      rw [← List.tail_drop, hd]; rfl
    obtain ⟨a1, a2, a3⟩ := hw.2.2 i w hwi
    have a11 := a1.1
    obtain ⟨σ1, e1, e2, e3⟩ := q_enteredL (F := F) (p := 20 * i) (pa := m + 24) (M := 320) hm hF hr (fun σ i hi => Ma34 hm hi) (by decide) (by decide) a1 a3 (by omega) (by decide) (by omega)
    obtain ⟨r, hr1, hr2⟩ := plc_at (w := w) (xs := xs)
    obtain ⟨P, hP⟩ : ∃ P, P = plc w (xs.map Prod.fst) := ⟨_, rfl⟩
    rw [← hP] at e1 hr1 hr2
    have hel := entL_len (w := w) (xs := xs)
    have hP2 : P < 4096 := by omega
    obtain ⟨σ2, hσ2⟩ : ∃ s, s = sA σ1 28 (upd (gA σ1 28) P (nI 1)) := ⟨_, rfl⟩
    have g28 : gA σ2 28 = upd (gA σ1 28) P (nI 1) := by rw [hσ2, gA_sA, if_pos rfl]
    have gAo : ∀ k, k ≠ 28 → gA σ2 k = gA σ1 k := fun k hk => by rw [hσ2, gA_sA, if_neg hk]
    have gBo : ∀ k, gB σ2 k = gB σ1 k := fun k => by rw [hσ2]; rfl
    have gIo : ∀ k, gI σ2 k = gI σ1 k := fun k => by rw [hσ2]; rfl
    have hk : frK σ σ2 := ⟨fun k a b => (gIo k).trans (e3.1 k a), fun k => by rw [hσ2]; exact e3.2.1 k, fun k a1 a2 a3 a4 a5 a6 _ => (gAo k a5).trans (e3.2.2.1 k a1 a2 a3 a4 a5 a6), fun k a => (gBo k).trans (e3.2.2.2 k a)⟩
    have rr := e2.2 P _ hr1
    have hRL : RL σ2 (setR (entL w xs) P wsR) := by
      rw [setR_at hr1]
      refine RL_set e2 hr1 (gIo 20) (gAo 21 (by decide)) (gAo 22 (by decide)) (fun k j hk hj => ?_) (fun j _ => by rw [gBo]) ⟨?_, ?_, ?_, ?_, ?_, ?_⟩
      · by_cases c : k = 28
        · rw [c, g28, upd_ne hj]
        · rw [gAo k c]
      · rw [gAo 23 (by decide)]; exact rr.1
      · rw [g28, upd_eq]; rfl
      · rw [gAo 73 (by decide)]; exact rr.2.2.1
      · exact rBy_eq rr.2.2.2.1 (by rw [gAo 24 (by decide)]) (by rw [gAo 25 (by decide)])
      · rw [gBo]; exact rr.2.2.2.2.1
      · rw [gAo 26 (by decide), gAo 27 (by decide)]; exact rr.2.2.2.2.2
    obtain ⟨σ', i1, i2, i3, i4, i5⟩ := ih (i + 1) f σ2 ws (setR (entL w xs) P wsR) (RW_K hw hk) hd2 (by omega) (by omega) hRL (by rw [setR_len]; omega)
    refine ⟨σ', ?_, ?_, frK_trans hk i3, i4.trans ((gIo 48).trans (e3.1 48 (by decide))), i5.trans ((gAo 49 (by decide)).trans (e3.2.2.1 49 (by decide) (by decide) (by decide) (by decide) (by decide) (by decide)))⟩
    · unfold f_M_tellNames_81
      rw [Mg32 hm, bs, hw.1, if_neg (nI_ge (by omega) (by omega)), Mr34 hm, bs, Mr36 hm, bs, Ma36 hm (by omega), bs, a2, e_o hm, bs, pk_mul, nI_add, e1, xb_mk, Mr28 hm, bs, show nI 1 &&& 1 = nI 1 from rfl, Ms28 hm hP2, bs, nI_add, ← hσ2]
      exact i1
    · unfold tlW
      rw [← hP]; exact i2
theorem q_tG (hm : m ≤ h.length) (hF : 4096 < F) : ∀ (l : List (List Nat × Int64)) (i f : Nat) (σ : px_S) (gs : List (List Nat × Int64)) (xs : px_NL) (od : List Nat), RG σ gs → gs.drop i = l → i + l.length = gs.length → l.length < f → RL σ xs → xs.length + l.length ≤ 4096 → RO σ od → od.length + l.length ≤ 4096 → ∃ σ', f_M_tellNames_2 F f m (nI i) (mh m h σ) = f_M_tellNames_79 F m (mh m h σ') ∧ RL σ' (tlG l (xs, od)).1 ∧ RO σ' (tlG l (xs, od)).2 ∧ frK σ σ' := by
  intro l
  induction l with
  | nil =>
    intro i f σ gs xs od hw hd hi hf hr hl ho hol
    rw [List.length_nil] at hi hf
    obtain ⟨f, rfl⟩ : ∃ x, f = x + 1 := ⟨f - 1, by omega⟩
    have h16 := hw.2.1.1
    rw [List.length_map] at h16
    refine ⟨σ, ?_, hr, ho, frK_refl σ⟩
    unfold f_M_tellNames_2
    rw [Mg31 hm, bs, hw.1, if_pos (nI_le (by omega) (by omega))]
  | cons g l ih =>
    intro i f σ gs xs od hw hd hi hf hr hl ho hol
    rw [List.length_cons] at hi hf hl hol
    obtain ⟨f, rfl⟩ : ∃ x, f = x + 1 := ⟨f - 1, by omega⟩
    have h16 := hw.2.1.1
    rw [List.length_map] at h16
    have hgi : gs[i]? = some g := by
      have : (gs.drop i)[0]? = some g := by rw [hd]; rfl
      rw [List.getElem?_drop, Nat.add_zero] at this
      exact this
    have hd2 : gs.drop (i + 1) = l := by
      rw [← List.tail_drop, hd]; rfl
    have hwi : (gs.map Prod.fst)[i]? = some g.1 := by rw [List.getElem?_map, hgi]; rfl
    obtain ⟨a1, a2, a3⟩ := hw.2.1.2 i g.1 hwi
    have a11 := a1.1
    have a4 := hw.2.2 i g hgi
    obtain ⟨σ1, e1, e2, e3⟩ := q_enteredL (F := F) (p := 20 * i) (pa := m + 23) (M := 320) hm hF hr (fun σ i hi => Ma33 hm hi) (by decide) (by decide) a1 a3 (by omega) (by decide) (by omega)
    obtain ⟨r, hr1, hr2⟩ := plc_at (w := g.1) (xs := xs)
    obtain ⟨P, hP⟩ : ∃ P, P = plc g.1 (xs.map Prod.fst) := ⟨_, rfl⟩
    rw [← hP] at e1 hr1 hr2
    have hel := entL_len (w := g.1) (xs := xs)
    have hP2 : P < 4096 := by omega
    have ho1 := ho.1
    have ho2 := ho.2.1
    have s37 : gB σ1 37 i = g.2 := by rw [e3.2.2.2 37 (by decide)]; exact a4
    have s48 : gI σ1 48 = nI od.length := (e3.1 48 (by decide)).trans ho1
    obtain ⟨σ2, hσ2⟩ : ∃ s, s = sI (sA (sB (sA σ1 23 (upd (gA σ1 23) P (nI 3))) 30 (vp_updL (gB σ1 30) P g.2)) 49 (upd (gA σ1 49) od.length (nI P))) 48 (nI (od.length + 1)) := ⟨_, rfl⟩
    have g23 : gA σ2 23 = upd (gA σ1 23) P (nI 3) := by rw [hσ2]; rfl
    have g49 : gA σ2 49 = upd (gA σ1 49) od.length (nI P) := by rw [hσ2]; rfl
    have g30 : gB σ2 30 = vp_updL (gB σ1 30) P g.2 := by rw [hσ2]; rfl
    have gAo : ∀ k, k ≠ 23 → k ≠ 49 → gA σ2 k = gA σ1 k := fun k h1 h2 => by rw [hσ2, gA_sI, gA_sA, if_neg h2, gA_sB, gA_sA, if_neg h1]
    have gBo : ∀ k, k ≠ 30 → gB σ2 k = gB σ1 k := fun k h1 => by rw [hσ2, gB_sI, gB_sA, gB_sB, if_neg h1, gB_sA]
    have gIo : ∀ k, k ≠ 48 → gI σ2 k = gI σ1 k := fun k h1 => by rw [hσ2, gI_sI, if_neg h1, gI_sA, gI_sB, gI_sA]
    have g48 : gI σ2 48 = nI (od.length + 1) := by rw [hσ2, gI_sI, if_pos rfl]
    have hk : frK σ σ2 := ⟨fun k a b => (gIo k b).trans (e3.1 k a), fun k => by rw [hσ2]; exact e3.2.1 k, fun k a1 a2 a3 a4 a5 a6 a7 => (gAo k a3 a7).trans (e3.2.2.1 k a1 a2 a3 a4 a5 a6), fun k a => (gBo k a).trans (e3.2.2.2 k a)⟩
    have rr := e2.2 P _ hr1
    have hRL : RL σ2 (setR (entL g.1 xs) P (gvR g.2)) := by
      rw [setR_at hr1]
      refine RL_set e2 hr1 (gIo 20 (by decide)) (gAo 21 (by decide) (by decide)) (gAo 22 (by decide) (by decide)) (fun k j hk hj => ?_) (fun j hj => by rw [g30]; unfold vp_updL; exact if_neg hj) ⟨?_, ?_, ?_, ?_, ?_, fun q => nomatch q⟩
      · by_cases c : k = 23
        · rw [c, g23, upd_ne hj]
        · rw [gAo k c (by omega)]
      · rw [g23, upd_eq]; rfl
      · rw [gAo 28 (by decide) (by decide)]; exact rr.2.1
      · rw [gAo 73 (by decide) (by decide)]; exact rr.2.2.1
      · exact rBy_eq rr.2.2.2.1 (by rw [gAo 24 (by decide) (by decide)]) (by rw [gAo 25 (by decide) (by decide)])
      · rw [g30]; unfold vp_updL; exact if_pos rfl
    have hRO : RO σ2 (od ++ [P]) := by
      have hle : (od ++ [P]).length = od.length + 1 := by rw [List.length_append]; rfl
      refine ⟨by rw [hle]; exact g48, by omega, fun j d hj => ?_⟩
      by_cases c : j < od.length
      · rw [List.getElem?_append_left c] at hj
        rw [g49, upd_ne (by omega), e3.2.2.1 49 (by decide) (by decide) (by decide) (by decide) (by decide) (by decide)]
        exact ho.2.2 j d hj
      · have hjl : j = od.length := by
          have := (List.getElem?_eq_some_iff.mp hj).1
          omega
        rw [hjl, List.getElem?_append_right (Nat.le_refl _), Nat.sub_self] at hj
        rw [hjl, g49, upd_eq, Option.some.inj hj]
    obtain ⟨σ', i1, i2, i3, i4⟩ := ih (i + 1) f σ2 gs (setR (entL g.1 xs) P (gvR g.2)) (od ++ [P]) (RG_K hw hk) hd2 (by omega) (by omega) hRL (by rw [setR_len]; omega) hRO (by rw [List.length_append]; have : [P].length = 1 := rfl; omega)
    refine ⟨σ', ?_, ?_, ?_, frK_trans hk i4⟩
    · unfold f_M_tellNames_2
      rw [Mg31 hm, bs, hw.1, if_neg (nI_ge (by omega) (by omega)), Mr33 hm, bs, Mr35 hm, bs, Ma35 hm (by omega), bs, a2, e_o hm, bs, pk_mul, nI_add, e1, xb_mk, Mr23 hm, bs, Ms23 hm hP2, bs, Mr30 hm, bs, Mr37 hm, bs, Ma37 hm (by omega), bs, show gB (sA σ1 23 (upd (gA σ1 23) P (nI 3))) 37 i = g.2 from s37, Ms30 hm hP2, bs, Mr49 hm, bs, Mg48 hm, bs, gI_sB, gI_sA, s48, Ms49 hm (by omega), bs, Mg48 hm, bs, gI_sA, gI_sB, gI_sA, s48, nI_add, Mp48 hm, bs, nI_add]
      rw [show mh m h (sI (sA (sB (sA σ1 23 (upd (gA σ1 23) P (nI 3))) 30 (vp_updL (gB (sA σ1 23 (upd (gA σ1 23) P (nI 3))) 30) P g.2)) 49 (upd (gA (sB (sA σ1 23 (upd (gA σ1 23) P (nI 3))) 30 (vp_updL (gB (sA σ1 23 (upd (gA σ1 23) P (nI 3))) 30) P g.2)) 49) od.length (nI P))) 48 (nI (od.length + 1))) = mh m h σ2 by rw [hσ2]; rfl]
      exact i1
    · unfold tlG
      rw [← hP]; exact i2
    · unfold tlG
      rw [← hP]; exact i3
theorem q_tellNames {σ : px_S} {gs : List (List Nat × Int64)} {ws : List (List Nat)} (hm : m ≤ h.length) (hF : 4096 < F) (hg : RG σ gs) (hw : RW σ ws) (h20 : gI σ 20 = nI 0) (h48 : gI σ 48 = nI 0) : ∃ σ', f_M_tellNames F m (mh m h σ) = some ((), mh m h σ') ∧ RL σ' (tlW ws (tlG gs ([], [])).1) ∧ RO σ' (tlG gs ([], [])).2 ∧ frK σ σ' := by
  have h16 := hg.2.1.1
  rw [List.length_map] at h16
  have h17 := hw.2.1
  have hlen : ∀ (l : List (List Nat × Int64)) (s : px_NL × List Nat), (tlG l s).1.length ≤ s.1.length + l.length := by
    intro l
    induction l with
    | nil => intro s; exact Nat.le_refl _
    | cons g l ih =>
      intro s
      unfold tlG
      have h1 := ih (setR (entL g.1 s.1) (plc g.1 (s.1.map Prod.fst)) (gvR g.2), s.2 ++ [plc g.1 (s.1.map Prod.fst)])
      have h2 : (setR (entL g.1 s.1) (plc g.1 (s.1.map Prod.fst)) (gvR g.2)).length ≤ s.1.length + 1 := by rw [setR_len]; exact entL_len
      rw [List.length_cons]
      exact Nat.le_trans h1 (by show (setR (entL g.1 s.1) (plc g.1 (s.1.map Prod.fst)) (gvR g.2)).length + l.length ≤ _; omega)
  obtain ⟨σ1, e1, e2, e3, e4⟩ := q_tG (F := F) hm hF gs 0 F σ gs [] [] hg (List.drop_zero) (by omega) (by omega) ⟨⟨h20, Nat.zero_le _, fun i w hw => by rw [List.map_nil, List.getElem?_nil] at hw; cases hw⟩, fun i x hx => by rw [List.getElem?_nil] at hx; cases hx⟩ (by rw [List.length_nil]; omega) ⟨h48, Nat.zero_le _, fun i x hx => by rw [List.getElem?_nil] at hx; cases hx⟩ (by rw [List.length_nil]; omega)
  have hl1 := hlen gs ([], [])
  have hl2 : (tlG gs ([], [])).1.length ≤ 16 := by
    have : (([], []) : px_NL × List Nat).1.length = 0 := rfl
    omega
  obtain ⟨σ2, f1, f2, f3, f4, f5⟩ := q_tW (F := F) hm hF ws 0 F σ1 ws (tlG gs ([], [])).1 (RW_K hw e4) (List.drop_zero) (by omega) (by omega) e2 (by omega)
  refine ⟨σ2, ?_, f2, ?_, frK_trans e4 f3⟩
  · unfold f_M_tellNames
    rw [e1]
    unfold f_M_tellNames_79
    exact f1
  · refine ⟨?_, e3.2.1, fun i d hd => ?_⟩
    · rw [f4]; exact e3.1
    · rw [f5]; exact e3.2.2 i d hd
end MTN
end
section
/-! an object's names, in the reference -/
/-- the name of a symbol -/
def yT (b : Nat → Nat) (k : Nat) : List Nat := tk b (oP b (oX b) + yN b k) (yL b k)
theorem run_nz {b : Nat → Nat} : ∀ {c p i : Nat}, i < run b p c → b (p + i) ≠ 0
  | 0, p, i, h => absurd h (Nat.not_lt_zero _)
  | c + 1, p, i, h => by
    unfold run at h
    by_cases e : b p = 0
    · rw [if_pos e] at h; exact absurd h (Nat.not_lt_zero _)
    · rw [if_neg e] at h
      cases i with
      | zero => exact e
      | succ i =>
        rw [show p + (i + 1) = (p + 1) + i by omega]
        exact run_nz (c := c) (by omega)
theorem run_z {b : Nat → Nat} : ∀ {c p : Nat}, run b p c < c → b (p + run b p c) = 0
  | 0, p, h => absurd h (Nat.not_lt_zero _)
  | c + 1, p, h => by
    unfold run at h ⊢
    by_cases e : b p = 0
    · rw [if_pos e]; exact e
    · rw [if_neg e] at h ⊢
      rw [show p + (run b (p + 1) c + 1) = (p + 1) + run b (p + 1) c by omega]
      exact run_z (by omega)
theorem yG_n {b : Nat → Nat} {k : Nat} (h : yG b k = true) : 1 ≤ yL b k ∧ yL b k ≤ 20 ∧ yN b k + yL b k < oZ b (oX b) := by
  unfold yG at h
  have := of_decide_eq_true h
  exact ⟨this.2.1, this.2.2.1, this.2.2.2⟩
theorem ar_nm {o P f l Z n : Nat} (hn : o + n ≤ 65536) (hp : P + Z ≤ n) (hl : f + l < Z) : P + f + l < n ∧ o + (P + f) + l < 65536 ∧ o + n ≤ 65536 := by omega
section MNA
variable {F m o n k : Nat} {h : px_H} {σ : px_S} {B : Nat → Int32}
theorem q_nameAt (hb : mb h m B) (hF : 24 < F) (hw : w2 (cb B o n) n) (hn : o + n ≤ 65536) (hk : k < oM (cb B o n)) : f_M_nameAt F m (nI o) (nI k) h = some (nI (o + (oP (cb B o n) (oX (cb B o n)) + yN (cb B o n) k)), h) := by
  obtain ⟨fs, h1⟩ := mb_o hb
  have ho := w1_rk hw.1 hn
  have hs := hw.1.2.1.1
  have c := w2_M0 hk
  have hX := (hw.2 c).2.2.1
  have hy := w2_y hw hk
  unfold f_M_nameAt
  rw [h1, bs, q_symbols hb hF ho hs, xb_mk, h1, bs, q_linkOf hb (by omega) ho (oY_lt hs), xb_mk, h1, bs, lN_i]
  rw [show oL (cb B o n) (oY (cb B o n)) = oX (cb B o n) from rfl, q_beginning hb (by omega) ho hX, xb_mk, h1, bs, q_symbol hb hF ho hs, xb_mk, h1, bs, q_numo (k := 4) hb (by omega) (by decide) hn (Nat.le_trans (Nat.add_le_add_left (show 4 ≤ 24 by decide) _) hy), xb_mk, lN_i, lN_i, nI_add, nI_add, Nat.add_assoc]
  rfl
theorem q_nameEnd (hm : m ≤ h.length) (hB : ∀ k, isB (gA σ 6 k)) (hF : 24 < F) (hw : w2 (cb (gA σ 6) o n) n) (hn : o + n ≤ 65536) (hk : k < oM (cb (gA σ 6) o n)) (hg : yG (cb (gA σ 6) o n) k = true) : f_M_nameEnd F m (nI o) (nI k) (mh m h σ) = some (nI (o + (oP (cb (gA σ 6) o n) (oX (cb (gA σ 6) o n)) + yN (cb (gA σ 6) o n) k) + yL (cb (gA σ 6) o n) k), mh m h σ) := by
  have hPZ := w2_x hw (w2_M0 hk)
  obtain ⟨g1, g2, g3⟩ := yG_n hg
  have hz : (cb (gA σ 6) o n) (oP (cb (gA σ 6) o n) (oX (cb (gA σ 6) o n)) + yN (cb (gA σ 6) o n) k + yL (cb (gA σ 6) o n) k) = 0 := run_z (by show yL _ _ < 21; omega)
  have hnz : ∀ i, i < yL (cb (gA σ 6) o n) k → (cb (gA σ 6) o n) (oP (cb (gA σ 6) o n) (oX (cb (gA σ 6) o n)) + yN (cb (gA σ 6) o n) k + i) ≠ 0 := fun i hi => run_nz hi
  have hl := ar_nm hn hPZ g3
  unfold f_M_nameEnd
  rw [e_o hm, bs, q_nameAt (Mmb hm hB) hF hw hn hk, xb_mk]
  generalize yL (cb (gA σ 6) o n) k = L at *
  generalize hp : oP (cb (gA σ 6) o n) (oX (cb (gA σ 6) o n)) + yN (cb (gA σ 6) o n) k = p at *
  have key : ∀ (d l f : Nat), l + d = L → d < f → f_M_nameEnd_7 F f m (nI (o + p + l)) (mh m h σ) = some (nI (o + p + L), mh m h σ) := by
    intro d
    induction d with
    | zero =>
      intro l f hl' hf
      obtain ⟨f, rfl⟩ : ∃ x, f = x + 1 := ⟨f - 1, by omega⟩
      have hlL : l = L := by omega
      have e : gA σ 6 (o + p + l) = 0 := by
        rw [isB_0 (hB _), hlL]
        unfold cb at hz
        rw [if_pos (by omega), ← Nat.add_assoc] at hz
        exact hz
      unfold f_M_nameEnd_7 f_M_nameEnd_22
      rw [Mr6 hm, bs, Ma6 hm (by omega), bs, if_pos e, hlL]
    | succ d ih =>
      intro l f hl' hf
      obtain ⟨f, rfl⟩ : ∃ x, f = x + 1 := ⟨f - 1, by omega⟩
      have e : ¬ gA σ 6 (o + p + l) = 0 := by
        rw [isB_0 (hB _)]
        have h1 := hnz l (by omega)
        unfold cb at h1
        rw [if_pos (by omega), ← Nat.add_assoc] at h1
        exact h1
      unfold f_M_nameEnd_7
      rw [Mr6 hm, bs, Ma6 hm (by omega), bs, if_neg e, nI_add]
      exact ih (l + 1) f (by omega) (by omega)
  have := key L 0 F (by omega) (by omega)
  rw [Nat.add_zero] at this
  exact this
theorem yT_src (hB : ∀ k, isB (gA σ 6 k)) (hw : w2 (cb (gA σ 6) o n) n) (hn : o + n ≤ 65536) (hk : k < oM (cb (gA σ 6) o n)) (hg : yG (cb (gA σ 6) o n) k = true) : srcT (gA σ 6) (o + (oP (cb (gA σ 6) o n) (oX (cb (gA σ 6) o n)) + yN (cb (gA σ 6) o n) k)) (yT (cb (gA σ 6) o n) k) ∧ okN (yT (cb (gA σ 6) o n) k) ∧ (yT (cb (gA σ 6) o n) k).length = yL (cb (gA σ 6) o n) k ∧ o + (oP (cb (gA σ 6) o n) (oX (cb (gA σ 6) o n)) + yN (cb (gA σ 6) o n) k) + yL (cb (gA σ 6) o n) k ≤ 65536 := by
  have hPZ := w2_x hw (w2_M0 hk)
  obtain ⟨g1, g2, g3⟩ := yG_n hg
  have hl := ar_nm hn hPZ g3
  have hlt := tk_lt (cb_lt (gA σ 6) o n) (oP (cb (gA σ 6) o n) (oX (cb (gA σ 6) o n)) + yN (cb (gA σ 6) o n) k) (yL (cb (gA σ 6) o n) k)
  unfold yT
  generalize yL (cb (gA σ 6) o n) k = L at *
  generalize oP (cb (gA σ 6) o n) (oX (cb (gA σ 6) o n)) + yN (cb (gA σ 6) o n) k = p at *
  refine ⟨?_, ⟨by rw [tk_len]; exact g2, hlt⟩, tk_len _ _ _, by omega⟩
  intro j x hx
  have hj : j < L := by
    have := (List.getElem?_eq_some_iff.mp hx).1
    rw [tk_len] at this
    exact this
  rw [tk_get _ _ _ _ hj] at hx
  have hx2 := Option.some.inj hx
  unfold cb at hx2
  rw [if_pos (by omega), ← Nat.add_assoc] at hx2
  rw [← hx2]
  exact hB _
theorem q_nameOf {xs : px_NL} (hm : m ≤ h.length) (hF : 4096 < F) (hB : ∀ k, isB (gA σ 6 k)) (hw : w2 (cb (gA σ 6) o n) n) (hn : o + n ≤ 65536) (hk : k < oM (cb (gA σ 6) o n)) (hg : yG (cb (gA σ 6) o n) k = true) (hr : RL σ xs) : f_M_nameOf F m (nI o) (nI k) (mh m h σ) = some (tdA (idx (yT (cb (gA σ 6) o n) k) 0 (xs.map Prod.fst)), mh m h σ) := by
  obtain ⟨s1, s2, s3, s4⟩ := yT_src hB hw hn hk hg
  unfold f_M_nameOf
  rw [Mr6 hm, bs, e_o hm, bs, q_nameAt (Mmb hm hB) (by omega) hw hn hk, xb_mk, e_o hm, bs, q_nameEnd hm hB (by omega) hw hn hk hg, xb_mk, e_o hm, bs, ← s3, q_find (M := 65536) hm hF hr.1 (fun i hi => Ma6 hm hi) s1 s2.2 (by rw [s3]; exact s4) (by decide), xb_mk]
theorem q_enter {xs : px_NL} (hm : m ≤ h.length) (hF : 4096 < F) (hB : ∀ k, isB (gA σ 6 k)) (hw : w2 (cb (gA σ 6) o n) n) (hn : o + n ≤ 65536) (hk : k < oM (cb (gA σ 6) o n)) (hg : yG (cb (gA σ 6) o n) k = true) (hr : RL σ xs) (hl : xs.length < 4096) : ∃ σ', f_M_enter F m (nI o) (nI k) (mh m h σ) = some (nI (plc (yT (cb (gA σ 6) o n) k) (xs.map Prod.fst)), mh m h σ') ∧ RL σ' (entL (yT (cb (gA σ 6) o n) k) xs) ∧ frJ σ σ' := by
  obtain ⟨s1, s2, s3, s4⟩ := yT_src hB hw hn hk hg
  obtain ⟨σ', e1, e2, e3⟩ := q_enteredL (F := F) (pa := m + 3) (ks := 6) (M := 65536) hm hF hr (fun σ i hi => Ma6 hm hi) (by decide) (by decide) s2 s1 (by rw [s3]; exact s4) (by decide) hl
  refine ⟨σ', ?_, e2, e3⟩
  unfold f_M_enter
  rw [Mr6 hm, bs, e_o hm, bs, q_nameAt (Mmb hm hB) (by omega) hw hn hk, xb_mk, e_o hm, bs, q_nameEnd hm hB (by omega) hw hn hk hg, xb_mk, e_o hm, bs, ← s3, e1, xb_mk]
end MNA
end
section
/-! a symbol comes to its name, in the reference -/
/-- a record within its bounds -/
def okR (r : px_NR) : Prop := r.1 ≤ 4 ∧ r.2.2.2.2.2.1 < 2 ^ 31 ∧ r.2.2.2.2.2.2 < 2 ^ 31
/-- only what a coming name changes has changed -/
def frM (σ σ' : px_S) : Prop := (∀ k, k ≠ 20 → k ≠ 48 → gI σ' k = gI σ k) ∧ (∀ k, gJ σ' k = gJ σ k) ∧ (∀ k, (k < 21 ∨ 28 < k) → k ≠ 73 → k ≠ 49 → gA σ' k = gA σ k) ∧ (∀ k, k ≠ 30 → gB σ' k = gB σ k)
theorem frM_refl (σ : px_S) : frM σ σ := ⟨fun _ _ _ => rfl, fun _ => rfl, fun _ _ _ _ => rfl, fun _ _ => rfl⟩
theorem frM_trans {σ σ1 σ2 : px_S} (h : frM σ σ1) (g : frM σ1 σ2) : frM σ σ2 := ⟨fun k a b => (g.1 k a b).trans (h.1 k a b), fun k => (g.2.1 k).trans (h.2.1 k), fun k a1 a2 a3 => (g.2.2.1 k a1 a2 a3).trans (h.2.2.1 k a1 a2 a3), fun k a => (g.2.2.2 k a).trans (h.2.2.2 k a)⟩
theorem frM_J {σ σ' : px_S} (h : frJ σ σ') : frM σ σ' := ⟨fun k a _ => h.1 k a, h.2.1, fun k a1 a2 a3 => h.2.2.1 k (by omega) (by omega) (by omega) (by omega) (by omega) a2, h.2.2.2⟩
/-- defined by symbol k of object t with strength s -/
def dfR (s t k z v : Nat) (r : px_NR) : px_NR := (s, r.2.1, r.2.2.1, some (t, k), r.2.2.2.2.1, if s = 2 then z else 0, if s = 2 then v else 0)
/-- two commons -/
def cmR (z v : Nat) (r : px_NR) : px_NR := (r.1, r.2.1, r.2.2.1, r.2.2.2.1, r.2.2.2.2.1, if z ≤ r.2.2.2.2.2.1 then r.2.2.2.2.2.1 else z, if v ≤ r.2.2.2.2.2.2 then r.2.2.2.2.2.2 else v)
section MCM
variable {F m o n k t P s z v : Nat} {h : px_H} {σ : px_S} {xs : px_NL} {w : List Nat} {r : px_NR} {od : List Nat}
theorem q_come_204 (hm : m ≤ h.length) (hr : RL σ xs) (hx : xs[P]? = some (w, r)) (hP : P < 4096) (hs : s ≤ 4) (hr4 : r.1 ≤ 4) (hZ : ∀ σ', gA σ' 6 = gA σ 6 → f_M_symbolSize F m (nI o) (nI k) (mh m h σ') = some (lN z, mh m h σ')) (hV : ∀ σ', gA σ' 6 = gA σ 6 → f_M_value F m (nI o) (nI k) (mh m h σ') = some (lN v, mh m h σ')) : ∃ σ', f_M_come_204 F m (nI t) (nI o) (nI k) (nI P) (nI s) (mh m h σ) = some (nI 1, mh m h σ') ∧ RL σ' (if r.1 < s then xs.set P (w, dfR s t k z v r) else xs) ∧ frM σ σ' ∧ gI σ' 48 = gI σ 48 ∧ gA σ' 49 = gA σ 49 ∧ gI σ' 20 = gI σ 20 := by
  have rr : rrec σ P r := hr.2 P _ hx
  unfold f_M_come_204
  rw [Mr23 hm, bs, Ma23 hm hP, bs, rr.1]
  by_cases c : r.1 < s
  · rw [if_pos (nI_lt c (by omega)), if_pos c, bs, Ms23 hm hP, bs, Mr24 hm, bs, Ms24 hm hP, bs, Mr25 hm, bs, Ms25 hm hP, bs, Mr26 hm, bs]
    obtain ⟨σ1, hσ1⟩ : ∃ x, x = sA (sA (sA σ 23 (upd (gA σ 23) P (nI s))) 24 (upd (gA σ 24) P (nI t))) 25 (upd (gA σ 25) P (nI k)) := ⟨_, rfl⟩
    have e1 : sA (sA (sA σ 23 (upd (gA σ 23) P (nI s))) 24 (upd (gA (sA σ 23 (upd (gA σ 23) P (nI s))) 24) P (nI t))) 25 (upd (gA (sA (sA σ 23 (upd (gA σ 23) P (nI s))) 24 (upd (gA (sA σ 23 (upd (gA σ 23) P (nI s))) 24) P (nI t))) 25) P (nI k)) = σ1 := by rw [hσ1]; rfl
    rw [e1]
    have a6 : gA σ1 6 = gA σ 6 := by rw [hσ1]; rfl
    have key : ∃ σ', f_M_come_266 F m (nI o) (nI k) (nI P) (nI s) (m + 18) (nI P) (nI (if s = 2 then z else 0)) (mh m h σ1) = some (nI 1, mh m h σ') ∧ σ' = sA (sA σ1 26 (upd (gA σ 26) P (nI (if s = 2 then z else 0)))) 27 (upd (gA σ 27) P (nI (if s = 2 then v else 0))) := by
      unfold f_M_come_266 f_M_come_290
      rw [Ms26 hm hP, bs, Mr27 hm, bs]
      by_cases c2 : s = 2
      · rw [if_pos (show nI s = nI 2 by rw [c2]), e_o hm, bs, hV _ (by show gA σ1 6 = _; exact a6), xb_mk, Ms27 hm hP, bs, lN_i, if_pos c2, if_pos c2]
        refine ⟨_, rfl, ?_⟩
        rw [hσ1]; rfl
      · rw [if_neg (fun q => c2 ((nI_eq (by omega) (by decide)).mp q)), Ms27 hm hP, bs, if_neg c2, if_neg c2]
        refine ⟨_, rfl, ?_⟩
        rw [hσ1]; rfl
    obtain ⟨σ', k1, k2⟩ := key
    refine ⟨σ', ?_, ?_, ?_, by rw [k2, hσ1]; rfl, by rw [k2, hσ1]; rfl, by rw [k2, hσ1]; rfl⟩
    · by_cases c2 : s = 2
      · rw [if_pos c2] at k1
        rw [if_pos (show nI s = nI 2 by rw [c2]), e_o hm, bs, hZ _ a6, xb_mk, lN_i]
        exact k1
      · rw [if_neg c2] at k1
        rw [if_neg (fun q => c2 ((nI_eq (by omega) (by decide)).mp q))]
        exact k1
    · have g23 : gA σ' 23 = upd (gA σ 23) P (nI s) := by rw [k2, hσ1]; rfl
      have g24 : gA σ' 24 = upd (gA σ 24) P (nI t) := by rw [k2, hσ1]; rfl
      have g25 : gA σ' 25 = upd (gA σ 25) P (nI k) := by rw [k2, hσ1]; rfl
      have g26 : gA σ' 26 = upd (gA σ 26) P (nI (if s = 2 then z else 0)) := by rw [k2, hσ1]; rfl
      have g27 : gA σ' 27 = upd (gA σ 27) P (nI (if s = 2 then v else 0)) := by rw [k2, hσ1]; rfl
      have g28 : gA σ' 28 = gA σ 28 := by rw [k2, hσ1]; rfl
      have g73 : gA σ' 73 = gA σ 73 := by rw [k2, hσ1]; rfl
      have b30 : gB σ' 30 = gB σ 30 := by rw [k2, hσ1]; rfl
      refine RL_set hr hx (by rw [k2, hσ1]; rfl) (by rw [k2, hσ1]; rfl) (by rw [k2, hσ1]; rfl) (fun q j hq hj => ?_) (fun j _ => by rw [b30]) ⟨?_, ?_, ?_, ⟨?_, ?_⟩, ?_, fun _ => ⟨?_, ?_⟩⟩
      · rcases hq with e | e | e | e | e | e | e
        · rw [e, g23, upd_ne hj]
        · rw [e, g24, upd_ne hj]
        · rw [e, g25, upd_ne hj]
        · rw [e, g26, upd_ne hj]
        · rw [e, g27, upd_ne hj]
        · rw [e, g28]
        · rw [e, g73]
      · rw [g23, upd_eq]; rfl
      · rw [g28]; exact rr.2.1
      · rw [g73]; exact rr.2.2.1
      · rw [g24, upd_eq]
      · rw [g25, upd_eq]
      · rw [b30]; exact rr.2.2.2.2.1
      · rw [g26, upd_eq]; rfl
      · rw [g27, upd_eq]; rfl
    · rw [k2, hσ1]
      refine ⟨fun _ _ _ => rfl, fun _ => rfl, fun q h1 h2 h3 => ?_, fun _ _ => rfl⟩
      rw [gA_sA, if_neg (by omega), gA_sA, if_neg (by omega), gA_sA, if_neg (by omega), gA_sA, if_neg (by omega), gA_sA, if_neg (by omega)]
  · rw [if_neg (nI_nlt (by omega) (by omega)), if_neg c]
    exact ⟨σ, rfl, hr, frM_refl σ, rfl, rfl, rfl⟩
theorem ite_max {a b : Nat} : (if a ≤ b then b else a) = max a b := by
  by_cases c : a ≤ b
  · rw [if_pos c, Nat.max_eq_right c]
  · rw [if_neg c, Nat.max_eq_left (by omega)]
/-- what a symbol of strength s (not 0) makes of the record -/
def cmS (s t k z v : Nat) (r : px_NR) : px_NR := if r.1 < s then dfR s t k z v r else if s = 2 ∧ r.1 = 2 then cmR z v r else r
theorem q_come_105 (hm : m ≤ h.length) (hr : RL σ xs) (hx : xs[P]? = some (w, r)) (hP : P < 4096) (hs : s ≤ 4) (hok : okR r) (hz : s = 2 → z < 2 ^ 31) (hv : s = 2 → v < 2 ^ 31) (hZ : ∀ σ', gA σ' 6 = gA σ 6 → f_M_symbolSize F m (nI o) (nI k) (mh m h σ') = some (lN z, mh m h σ')) (hV : ∀ σ', gA σ' 6 = gA σ 6 → f_M_value F m (nI o) (nI k) (mh m h σ') = some (lN v, mh m h σ')) : ∃ σ', f_M_come_105 F m (nI t) (nI o) (nI k) (nI P) (nI s) (mh m h σ) = some (nI 1, mh m h σ') ∧ RL σ' (xs.set P (w, cmS s t k z v r)) ∧ frM σ σ' ∧ gI σ' 48 = gI σ 48 ∧ gA σ' 49 = gA σ 49 ∧ gI σ' 20 = gI σ 20 := by
  have rr : rrec σ P r := hr.2 P _ hx
  have hPl : P < xs.length := (List.getElem?_eq_some_iff.mp hx).1
  have hself : xs.set P (w, r) = xs := by
    apply List.ext_getElem?
    intro j
    by_cases e : P = j
    · rw [← e, List.getElem?_set_self hPl, hx]
    · rw [List.getElem?_set_ne e]
  have plain : ¬ (s = 2 ∧ r.1 = 2) → ∃ σ', f_M_come_204 F m (nI t) (nI o) (nI k) (nI P) (nI s) (mh m h σ) = some (nI 1, mh m h σ') ∧ RL σ' (xs.set P (w, cmS s t k z v r)) ∧ frM σ σ' ∧ gI σ' 48 = gI σ 48 ∧ gA σ' 49 = gA σ 49 ∧ gI σ' 20 = gI σ 20 := by
    intro hc
    obtain ⟨σ', e1, e2, e3⟩ := q_come_204 (t := t) (F := F) hm hr hx hP hs hok.1 hZ hV
    refine ⟨σ', e1, ?_, e3⟩
    unfold cmS
    by_cases c : r.1 < s
    · rw [if_pos c] at e2 ⊢; exact e2
    · rw [if_neg c] at e2
      rw [if_neg c, if_neg hc, hself]; exact e2
  unfold f_M_come_105
  by_cases c1 : s = 2
  · replace hz := hz c1
    replace hv := hv c1
    rw [if_pos (show nI s = nI 2 by rw [c1]), Mr23 hm, bs, Ma23 hm hP, bs, rr.1]
    by_cases c2 : r.1 = 2
    · rw [if_pos (show nI r.1 = nI 2 by rw [c2]), Mr26 hm, bs, e_o hm, bs, hZ σ rfl, xb_mk, Mr26 hm, bs, Ma26 hm hP, bs, (rr.2.2.2.2.2 c2).1, lN_i]
      obtain ⟨σ1, hσ1⟩ : ∃ x, x = sA σ 26 (upd (gA σ 26) P (nI (if z ≤ r.2.2.2.2.2.1 then r.2.2.2.2.2.1 else z))) := ⟨_, rfl⟩
      obtain ⟨σ2, hσ2⟩ : ∃ x, x = sA σ1 27 (upd (gA σ 27) P (nI (if v ≤ r.2.2.2.2.2.2 then r.2.2.2.2.2.2 else v))) := ⟨_, rfl⟩
      have k162 : f_M_come_162 F m (nI t) (nI o) (nI k) (nI P) (nI s) (m + 18) (nI P) (nI (if z ≤ r.2.2.2.2.2.1 then r.2.2.2.2.2.1 else z)) (mh m h σ) = f_M_come_204 F m (nI t) (nI o) (nI k) (nI P) (nI s) (mh m h σ2) := by
        unfold f_M_come_162 f_M_come_203
        rw [Ms26 hm hP, bs, ← hσ1, Mr27 hm, bs, e_o hm, bs, hV σ1 (by rw [hσ1]; rfl), xb_mk, Mr27 hm, bs, Ma27 hm hP, bs, lN_i, show gA σ1 27 P = nI r.2.2.2.2.2.2 by rw [hσ1]; exact (rr.2.2.2.2.2 c2).2]
        by_cases c3 : v ≤ r.2.2.2.2.2.2
        · rw [if_pos (nI_le c3 (by have := hok.2.2; omega)), bs, Ma27 hm hP, bs, show gA σ1 27 P = nI r.2.2.2.2.2.2 by rw [hσ1]; exact (rr.2.2.2.2.2 c2).2, Ms27 hm hP, bs, hσ2, if_pos c3, show gA σ1 27 = gA σ 27 by rw [hσ1]; rfl]
        · rw [if_neg (nI_ge (by omega) (by omega)), e_o hm, bs, hV σ1 (by rw [hσ1]; rfl), xb_mk, lN_i, Ms27 hm hP, bs, hσ2, if_neg c3, show gA σ1 27 = gA σ 27 by rw [hσ1]; rfl]
      have g26 : gA σ2 26 = upd (gA σ 26) P (nI (if z ≤ r.2.2.2.2.2.1 then r.2.2.2.2.2.1 else z)) := by rw [hσ2, hσ1]; rfl
      have g27 : gA σ2 27 = upd (gA σ 27) P (nI (if v ≤ r.2.2.2.2.2.2 then r.2.2.2.2.2.2 else v)) := by rw [hσ2, hσ1]; rfl
      have gAo : ∀ q, q ≠ 26 → q ≠ 27 → gA σ2 q = gA σ q := fun q a b => by rw [hσ2, gA_sA, if_neg b, hσ1, gA_sA, if_neg a]
      have gBo : ∀ q, gB σ2 q = gB σ q := fun q => by rw [hσ2, hσ1]; rfl
      have gIo : ∀ q, gI σ2 q = gI σ q := fun q => by rw [hσ2, hσ1]; rfl
      have hf2 : frM σ σ2 := ⟨fun q _ _ => gIo q, fun q => by rw [hσ2, hσ1]; rfl, fun q a _ _ => gAo q (by omega) (by omega), fun q _ => gBo q⟩
      have hRL2 : RL σ2 (xs.set P (w, cmR z v r)) := by
        refine RL_set hr hx (gIo 20) (gAo 21 (by decide) (by decide)) (gAo 22 (by decide) (by decide)) (fun q j hq hj => ?_) (fun j _ => by rw [gBo]) ⟨?_, ?_, ?_, ?_, ?_, fun _ => ⟨?_, ?_⟩⟩
        · by_cases e1 : q = 26
          · rw [e1, g26, upd_ne hj]
          · by_cases e2 : q = 27
            · rw [e2, g27, upd_ne hj]
            · rw [gAo q e1 e2]
        · rw [gAo 23 (by decide) (by decide)]; exact rr.1
        · rw [gAo 28 (by decide) (by decide)]; exact rr.2.1
        · rw [gAo 73 (by decide) (by decide)]; exact rr.2.2.1
        · exact rBy_eq rr.2.2.2.1 (by rw [gAo 24 (by decide) (by decide)]) (by rw [gAo 25 (by decide) (by decide)])
        · rw [gBo]; exact rr.2.2.2.2.1
        · rw [g26, upd_eq]; rfl
        · rw [g27, upd_eq]; rfl
      have h6 : gA σ2 6 = gA σ 6 := gAo 6 (by decide) (by decide)
      obtain ⟨σ', e1, e2, e3, e4, e5, e6⟩ := q_come_204 (t := t) (F := F) (s := s) hm hRL2 (by rw [List.getElem?_set_self hPl]) hP hs (show (cmR z v r).1 ≤ 4 from hok.1) (fun σ' q => hZ σ' (q.trans h6)) (fun σ' q => hV σ' (q.trans h6))
      refine ⟨σ', ?_, ?_, frM_trans hf2 e3, e4.trans (gIo 48), e5.trans (gAo 49 (by decide) (by decide)), e6.trans (gIo 20)⟩
      · by_cases c3 : z ≤ r.2.2.2.2.2.1
        · rw [if_pos c3] at k162
          rw [if_pos (nI_le c3 (by have := hok.2.1; omega)), bs, Ma26 hm hP, bs, (rr.2.2.2.2.2 c2).1, k162, e1]
        · rw [if_neg c3] at k162
          rw [if_neg (nI_ge (by omega) (by omega)), e_o hm, bs, hZ σ rfl, xb_mk, lN_i, k162, e1]
      · rw [if_neg (by show ¬ r.1 < s; omega)] at e2
        unfold cmS
        rw [if_neg (by omega), if_pos ⟨c1, c2⟩]
        exact e2
    · rw [if_neg (fun q => c2 ((nI_eq (by have := hok.1; omega) (by decide)).mp q))]
      exact plain (fun q => c2 q.2)
  · rw [if_neg (fun q => c1 ((nI_eq (by omega) (by decide)).mp q))]
    exact plain (fun q => c1 q.1)
end MCM
end
section
/-! come of the reference -/
/-- the sections dropped -/
def RDr (σ : px_S) (dr : Nat → Bool) : Prop := ∀ i, i < 1536 → gA σ 65 i = bI (dr i)
def wNo (dr : Nat → Bool) (t : Nat) (b : Nat → Nat) (k : Nat) : Nat := if 0 < yW b k ∧ yW b k < 24 ∧ dr (24 * t + yW b k) = true then 0 else yW b k
def sOf (dr : Nat → Bool) (t : Nat) (b : Nat → Nat) (k : Nat) : Nat := if wNo dr t b k = 0 then 0 else if wNo dr t b k = 65522 then 2 else if yB b k = 1 then 3 else 1
/-- object t taken stands at o -/
def RTa (σ : px_S) (t o : Nat) : Prop := t < 64 ∧ ∃ q, q < 64 ∧ gA σ 17 t = nI q ∧ gA σ 9 q = nI o
def okL (xs : px_NL) : Prop := ∀ (i : Nat) (x : List Nat × px_NR), xs[i]? = some x → okR x.2
theorem okL_ent {xs : px_NL} {w : List Nat} (h : okL xs) : okL (entL w xs) := by
  unfold entL
  split
  · exact h
  · intro i x hx
    by_cases c : i < xs.length
    · rw [List.getElem?_append_left c] at hx
      exact h i x hx
    · rw [List.getElem?_append_right (by omega)] at hx
      have hi : i - xs.length = 0 := by
        have := (List.getElem?_eq_some_iff.mp hx).1
        have h1 : [(w, nr0)].length = 1 := rfl
        omega
      rw [hi] at hx
      rw [← Option.some.inj hx]
      exact (show okR nr0 from ⟨by decide, by decide, by decide⟩)
theorem okL_set {xs : px_NL} {i : Nat} {x : List Nat × px_NR} (h : okL xs) (hx : okR x.2) : okL (xs.set i x) := by
  intro j y hy
  by_cases c : i = j
  · have hj : i < xs.length := by
      have := (List.getElem?_eq_some_iff.mp hy).1
      rw [List.length_set] at this
      omega
    rw [← c, List.getElem?_set_self hj] at hy
    rw [← Option.some.inj hy]; exact hx
  · rw [List.getElem?_set_ne c] at hy
    exact h j y hy
theorem okR_cm {s t k z v : Nat} {r : px_NR} (h : okR r) (hs : s ≤ 4) (hz : s = 2 → z < 2 ^ 31) (hv : s = 2 → v < 2 ^ 31) : okR (cmS s t k z v r) := by
  unfold cmS
  split
  · unfold dfR okR
    refine ⟨hs, ?_, ?_⟩
    · show (if s = 2 then z else 0) < _
      split
      · rename_i e; exact hz e
      · decide
    · show (if s = 2 then v else 0) < _
      split
      · rename_i e; exact hv e
      · decide
  · split
    · rename_i e
      unfold cmR okR
      refine ⟨h.1, ?_, ?_⟩
      · show (if z ≤ r.2.2.2.2.2.1 then r.2.2.2.2.2.1 else z) < _
        split
        · exact h.2.1
        · exact hz e.1
      · show (if v ≤ r.2.2.2.2.2.2 then r.2.2.2.2.2.2 else v) < _
        split
        · exact h.2.2
        · exact hv e.1
    · exact h
theorem yW_2 {B : Nat → Int32} {o n k : Nat} : yW (cb B o n) k < 65536 := by
  have := le_lt (cb_lt B o n) (yP (cb B o n) k + 6) 2
  exact this
section MCN
variable {F m o n k t : Nat} {h : px_H} {σ : px_S} {dr : Nat → Bool}
theorem q_object (hm : m ≤ h.length) (ht : RTa σ t o) : f_M_object F m (nI t) (mh m h σ) = some (nI o, mh m h σ) := by
  obtain ⟨h1, q, h2, h3, h4⟩ := ht
  unfold f_M_object
  rw [Mr9 hm, bs, Mr17 hm, bs, Ma17 hm h1, bs, h3, Ma9 hm h2, bs, h4]
theorem q_whereNow (hm : m ≤ h.length) (hF : 24 < F) (hB : ∀ k, isB (gA σ 6 k)) (hw : w2 (cb (gA σ 6) o n) n) (hn : o + n ≤ 65536) (hk : k < oM (cb (gA σ 6) o n)) (ht : RTa σ t o) (hd : RDr σ dr) : f_M_whereNow F m (nI t) (nI k) (mh m h σ) = some (nI (wNo dr t (cb (gA σ 6) o n) k), mh m h σ) := by
  have ho := w1_rk hw.1 hn
  have hs := hw.1.2.1.1
  have hy := w2_y hw hk
  have h64 := ht.1
  have hW := yW_2 (B := gA σ 6) (o := o) (n := n) (k := k)
  unfold f_M_whereNow f_M_whereNow_39 f_M_whereNow_40 wNo
  rw [e_o hm, bs, q_object hm ht, xb_mk, e_o hm, bs, q_where (Mmb hm hB) hF ho hs hy, xb_mk]
  generalize yW (cb (gA σ 6) o n) k = W at *
  by_cases c1 : W = 0
  · rw [if_pos (show nI W ≤ 0 from nI_le (b := 0) (by omega) (by omega)), if_neg (by omega)]
  · rw [if_neg (show ¬ nI W ≤ 0 from nI_nle (by omega) (by omega))]
    by_cases c2 : W < 24
    · rw [if_neg (nI_ge c2 (by omega)), Mr65 hm, bs, pk_mul, nI_add, Ma65 hm (by omega), bs, hd _ (by omega)]
      cases e : dr (24 * t + W) with
      | true => rw [if_neg (show ¬ bI true = 0 by decide), if_pos ⟨by omega, c2, rfl⟩]
      | false => rw [if_pos (show bI false = 0 from rfl), if_neg (fun q => nomatch q.2.2)]
    · rw [if_pos (nI_le (by omega) (by omega)), if_neg (by omega)]
theorem q_strengthOf (hm : m ≤ h.length) (hF : 24 < F) (hB : ∀ k, isB (gA σ 6 k)) (hw : w2 (cb (gA σ 6) o n) n) (hn : o + n ≤ 65536) (hk : k < oM (cb (gA σ 6) o n)) (ht : RTa σ t o) (hd : RDr σ dr) (hb2 : yB (cb (gA σ 6) o n) k ≤ 2) : f_M_strengthOf F m (nI t) (nI k) (mh m h σ) = some (nI (sOf dr t (cb (gA σ 6) o n) k), mh m h σ) := by
  have ho := w1_rk hw.1 hn
  have hs := hw.1.2.1.1
  have hy := w2_y hw hk
  have hW := yW_2 (B := gA σ 6) (o := o) (n := n) (k := k)
  have hwn : wNo dr t (cb (gA σ 6) o n) k < 65536 := by
    unfold wNo
    split
    · decide
    · exact hW
  unfold f_M_strengthOf f_M_strengthOf_48 sOf
  have hwN := q_whereNow (F := F) hm hF hB hw hn hk ht hd
  have hob := q_object (F := F) hm ht
  rw [e_o hm, bs, hwN, xb_mk, e_o hm, bs, show (65522 : Int32) = nI 65522 from rfl]
  have hbn := q_bind (F := F) (h := mh m h σ) (m := m) (k := k) (Mmb hm hB) hF ho hs hy
  generalize wNo dr t (cb (gA σ 6) o n) k = W at *
  generalize yB (cb (gA σ 6) o n) k = b at *
  by_cases c1 : W = 0
  · rw [if_pos (by rw [c1]; rfl), if_pos c1]
  · rw [if_neg (show ¬ nI W = 0 from fun q => c1 ((nI_eq (b := 0) (by omega) (by decide)).mp q)), if_neg c1, hwN, xb_mk]
    by_cases c2 : W = 65522
    · rw [if_pos (by rw [c2]), if_pos c2]
    · rw [if_neg (fun q => c2 ((nI_eq (by omega) (by decide)).mp q)), if_neg c2, e_o hm, bs, hob, xb_mk, e_o hm, bs, hbn, xb_mk]
      by_cases c3 : b = 1
      · rw [if_pos (by rw [c3]), if_pos c3]
      · rw [if_neg (fun q => c3 ((nI_eq (by omega) (by decide)).mp q)), if_neg c3]
/-- the names, and the order of definitions, when symbol k of object t comes; false: a double -/
def comS (dr : Nat → Bool) (t : Nat) (b : Nat → Nat) (k : Nat) (st : px_NL × List Nat) : Bool × px_NL × List Nat :=
  if sOf dr t b k = 0 then (true, setR (entL (yT b k) st.1) (plc (yT b k) (st.1.map Prod.fst)) (fun r => (r.1, (r.2.1 || decide (yB b k = 1)), r.2.2)), st.2)
  else if sOf dr t b k = 3 ∧ ((entL (yT b k) st.1).getD (plc (yT b k) (st.1.map Prod.fst)) ([], nr0)).2.1 = 3 then (false, entL (yT b k) st.1, st.2)
  else (true, setR (entL (yT b k) st.1) (plc (yT b k) (st.1.map Prod.fst)) (cmS (sOf dr t b k) t k (yZ b k) (yV b k)), if ((entL (yT b k) st.1).getD (plc (yT b k) (st.1.map Prod.fst)) ([], nr0)).2.1 = 0 then st.2 ++ [plc (yT b k) (st.1.map Prod.fst)] else st.2)
theorem sOf_4 {b : Nat → Nat} : sOf dr t b k ≤ 4 := by
  unfold sOf
  repeat (first | split | omega)
theorem sOf_2 {b : Nat → Nat} (h : sOf dr t b k = 2) : yW b k = 65522 := by
  unfold sOf at h
  by_cases c1 : wNo dr t b k = 0
  · rw [if_pos c1] at h; cases h
  · rw [if_neg c1] at h
    by_cases c2 : wNo dr t b k = 65522
    · unfold wNo at c2
      by_cases c3 : 0 < yW b k ∧ yW b k < 24 ∧ dr (24 * t + yW b k) = true
      · rw [if_pos c3] at c2; cases c2
      · rw [if_neg c3] at c2; exact c2
    · rw [if_neg c2] at h
      by_cases c3 : yB b k = 1
      · rw [if_pos c3] at h; cases h
      · rw [if_neg c3] at h; cases h
theorem yOK_n {b : Nat → Nat} (h : yOK b k = true) (hb : yB b k ≠ 0) : yB b k ≤ 2 ∧ yG b k = true ∧ (yW b k = 65522 → yV b k ≤ 4096 ∧ yZ b k ≤ 16384) := by
  have h1 := of_decide_eq_true h
  refine ⟨h1.1, (h1.2.2.2 hb).2.1, fun e => ?_⟩
  have h2 := (h1.2.2.2 hb).2.2 e
  exact ⟨(of_decide_eq_true h2.1).2.1, h2.2⟩
theorem RTa_M {σ' : px_S} (h : RTa σ t o) (f : frM σ σ') : RTa σ' t o := by
  obtain ⟨h1, q, h2, h3, h4⟩ := h
  refine ⟨h1, q, h2, ?_, ?_⟩
  · rw [f.2.2.1 17 (by decide) (by decide) (by decide)]; exact h3
  · rw [f.2.2.1 9 (by decide) (by decide) (by decide)]; exact h4
theorem RDr_M {σ' : px_S} (h : RDr σ dr) (f : frM σ σ') : RDr σ' dr := by
  intro i hi
  rw [f.2.2.1 65 (by decide) (by decide) (by decide)]
  exact h i hi
theorem q_come {xs : px_NL} {od : List Nat} (hm : m ≤ h.length) (hF : 4096 < F) (hB : ∀ k, isB (gA σ 6 k)) (hw : w2 (cb (gA σ 6) o n) n) (hn : o + n ≤ 65536) (hk : k < oM (cb (gA σ 6) o n)) (hok : yOK (cb (gA σ 6) o n) k = true) (hb : yB (cb (gA σ 6) o n) k ≠ 0) (ht : RTa σ t o) (hd : RDr σ dr) (hr : RL σ xs) (hxo : okL xs) (hl : xs.length < 4096) (ho : RO σ od) (hol : od.length < 4096) : ∃ σ', f_M_come F m (nI t) (nI o) (nI k) (mh m h σ) = some (bI (comS dr t (cb (gA σ 6) o n) k (xs, od)).1, mh m h σ') ∧ RL σ' (comS dr t (cb (gA σ 6) o n) k (xs, od)).2.1 ∧ okL (comS dr t (cb (gA σ 6) o n) k (xs, od)).2.1 ∧ RO σ' (comS dr t (cb (gA σ 6) o n) k (xs, od)).2.2 ∧ frM σ σ' := by
  obtain ⟨y1, y2, y3⟩ := yOK_n hok hb
  obtain ⟨σ1, e1, e2, e3⟩ := q_enter (F := F) hm hF hB hw hn hk y2 hr hl
  have f1 := frM_J e3
  have b6 : gA σ1 6 = gA σ 6 := f1.2.2.1 6 (by decide) (by decide) (by decide)
  have hB1 : ∀ k, isB (gA σ1 6 k) := by rw [b6]; exact hB
  have hst := q_strengthOf (F := F) (h := h) (σ := σ1) (o := o) (n := n) (k := k) (t := t) (dr := dr) hm (by omega) hB1 (by rw [b6]; exact hw) hn (by rw [b6]; exact hk) (RTa_M ht f1) (RDr_M hd f1) (by rw [b6]; exact y1)
  rw [b6] at hst
  have hok1 := okL_ent (w := yT (cb (gA σ 6) o n) k) hxo
  obtain ⟨r, hr1, hr2⟩ := plc_at (w := yT (cb (gA σ 6) o n) k) (xs := xs)
  have hel := entL_len (w := yT (cb (gA σ 6) o n) k) (xs := xs)
  have hs4 := sOf_4 (dr := dr) (t := t) (k := k) (b := cb (gA σ 6) o n)
  have hs2 := fun q => y3 (sOf_2 (dr := dr) (t := t) (k := k) (b := cb (gA σ 6) o n) q)
  have hrk := w1_rk hw.1 hn
  have hsS := hw.1.2.1.1
  have hyP := w2_y hw hk
  have hZ : ∀ σ', gA σ' 6 = gA σ 6 → f_M_symbolSize F m (nI o) (nI k) (mh m h σ') = some (lN (yZ (cb (gA σ 6) o n) k), mh m h σ') := by
    intro σ' q
    exact q_symbolSize (q ▸ Mmb hm (by rw [q]; exact hB)) (by omega) hrk hsS hyP
  have hV : ∀ σ', gA σ' 6 = gA σ 6 → f_M_value F m (nI o) (nI k) (mh m h σ') = some (lN (yV (cb (gA σ 6) o n) k), mh m h σ') := by
    intro σ' q
    exact q_value (q ▸ Mmb hm (by rw [q]; exact hB)) (by omega) hrk hsS hyP
  have hbn : f_M_bind F m (nI o) (nI k) (mh m h σ1) = some (nI (yB (cb (gA σ 6) o n) k), mh m h σ1) := q_bind (b6 ▸ Mmb hm hB1) (by omega) hrk hsS hyP
  unfold comS
  show ∃ σ', f_M_come F m (nI t) (nI o) (nI k) (mh m h σ) = _ ∧ _
  have hgd : ((entL (yT (cb (gA σ 6) o n) k) xs).getD (plc (yT (cb (gA σ 6) o n) k) (xs.map Prod.fst)) ([], nr0)) = (yT (cb (gA σ 6) o n) k, r) := by
    rw [List.getD_eq_getElem?_getD, hr1]; rfl
  unfold f_M_come
  rw [e_o hm, bs, e1, xb_mk, e_o hm, bs, hst, xb_mk]
  dsimp only
  rw [hgd]
  generalize sOf dr t (cb (gA σ 6) o n) k = s at *
  generalize yT (cb (gA σ 6) o n) k = w at *
  generalize yZ (cb (gA σ 6) o n) k = z at *
  generalize yV (cb (gA σ 6) o n) k = v at *
  generalize yB (cb (gA σ 6) o n) k = B at *
  generalize entL w xs = ys at *
  generalize plc w (xs.map Prod.fst) = P at *
  have hP : P < 4096 := by omega
  have rr : rrec σ1 P r := e2.2 P _ hr1
  have hrok : okR r := hok1 P _ hr1
  by_cases c1 : s = 0
  · rw [if_pos (show nI s = 0 by rw [c1]; rfl), if_pos c1]
    rw [Mr28 hm, bs, bs, Ma28 hm hP, bs, rr.2.1]
    obtain ⟨σ2, hσ2⟩ : ∃ x, x = sA σ1 28 (upd (gA σ1 28) P (bI (r.2.1 || decide (B = 1)))) := ⟨_, rfl⟩
    have g28 : gA σ2 28 = upd (gA σ1 28) P (bI (r.2.1 || decide (B = 1))) := by rw [hσ2, gA_sA, if_pos rfl]
    have gAo : ∀ q, q ≠ 28 → gA σ2 q = gA σ1 q := fun q hq => by rw [hσ2, gA_sA, if_neg hq]
    have gBo : ∀ q, gB σ2 q = gB σ1 q := fun q => by rw [hσ2]; rfl
    have gIo : ∀ q, gI σ2 q = gI σ1 q := fun q => by rw [hσ2]; rfl
    have hst2 : ∀ c : Bool, (c = (r.2.1 || decide (B = 1))) → f_M_come_52 F (m + 20) (nI P) (bI c) (mh m h σ1) = some (bI true, mh m h σ2) := by
      intro c hc
      unfold f_M_come_52
      rw [show bI c &&& 1 = bI c by cases c <;> rfl, Ms28 hm hP, bs, hc, ← hσ2]
      rfl
    refine ⟨σ2, ?_, ?_, ?_, ?_, ?_⟩
    · unfold f_M_come_47
      cases e : r.2.1 with
      | true =>
        rw [if_neg (show ¬ bI true = 0 by decide)]
        exact hst2 true (by rw [e]; rfl)
      | false =>
        rw [if_pos (show bI false = 0 from rfl), e_o hm, bs, hbn, xb_mk]
        by_cases c2 : B = 1
        · rw [if_pos (by rw [c2])]
          exact hst2 true (by rw [e, decide_eq_true c2]; rfl)
        · rw [if_neg (fun q => c2 ((nI_eq (by omega) (by decide)).mp q))]
          exact hst2 false (by rw [e, decide_eq_false c2]; rfl)
    · show RL σ2 (setR ys P (fun r => (r.1, (r.2.1 || decide (B = 1)), r.2.2)))
      rw [setR_at hr1]
      refine RL_set e2 hr1 (gIo 20) (gAo 21 (by decide)) (gAo 22 (by decide)) (fun q j hq hj => ?_) (fun j _ => by rw [gBo]) ⟨?_, ?_, ?_, ?_, ?_, ?_⟩
      · by_cases c : q = 28
        · rw [c, g28, upd_ne hj]
        · rw [gAo q c]
      · rw [gAo 23 (by decide)]; exact rr.1
      · rw [g28, upd_eq]
      · rw [gAo 73 (by decide)]; exact rr.2.2.1
      · exact rBy_eq rr.2.2.2.1 (by rw [gAo 24 (by decide)]) (by rw [gAo 25 (by decide)])
      · rw [gBo]; exact rr.2.2.2.2.1
      · rw [gAo 26 (by decide), gAo 27 (by decide)]; exact rr.2.2.2.2.2
    · show okL (setR ys P (fun r => (r.1, (r.2.1 || decide (B = 1)), r.2.2)))
      rw [setR_at hr1]
      exact okL_set hok1 hrok
    · refine ⟨(gIo 48).trans ((e3.1 48 (by decide)).trans ho.1), ho.2.1, fun i d hd => ?_⟩
      rw [gAo 49 (by decide), e3.2.2.1 49 (by decide) (by decide) (by decide) (by decide) (by decide) (by decide)]
      exact ho.2.2 i d hd
    · exact frM_trans f1 ⟨fun q _ _ => gIo q, fun q => by rw [hσ2]; rfl, fun q a _ _ => gAo q (by omega), fun q _ => gBo q⟩
  · rw [if_neg (show ¬ nI s = 0 from fun q => c1 ((nI_eq (b := 0) (by omega) (by decide)).mp q)), if_neg c1]
    have ho1 : RO σ1 od := ⟨(e3.1 48 (by decide)).trans ho.1, ho.2.1, fun i d hd => by
      rw [e3.2.2.1 49 (by decide) (by decide) (by decide) (by decide) (by decide) (by decide)]
      exact ho.2.2 i d hd⟩
    have hr4 := hrok.1
    have key : ∃ σ', f_M_come_74 F m (nI t) (nI o) (nI k) (nI P) (nI s) (mh m h σ1) = some (bI true, mh m h σ') ∧ RL σ' (setR ys P (cmS s t k z v)) ∧ okL (setR ys P (cmS s t k z v)) ∧ RO σ' (if r.1 = 0 then od ++ [P] else od) ∧ frM σ σ' := by
      rw [setR_at hr1]
      unfold f_M_come_74
      rw [Mr23 hm, bs, Ma23 hm hP, bs, rr.1]
      by_cases c2 : r.1 = 0
      · rw [if_pos (show nI r.1 = 0 by rw [c2]; rfl), if_pos c2, Mr49 hm, bs, Mg48 hm, bs, ho1.1, Ms49 hm hol, bs, Mg48 hm, bs, gI_sA, ho1.1, nI_add, Mp48 hm, bs]
        obtain ⟨σ2, hσ2⟩ : ∃ x, x = sI (sA σ1 49 (upd (gA σ1 49) od.length (nI P))) 48 (nI (od.length + 1)) := ⟨_, rfl⟩
        rw [← hσ2]
        have gAo : ∀ q, q ≠ 49 → gA σ2 q = gA σ1 q := fun q hq => by rw [hσ2, gA_sI, gA_sA, if_neg hq]
        have g49 : gA σ2 49 = upd (gA σ1 49) od.length (nI P) := by rw [hσ2, gA_sI, gA_sA, if_pos rfl]
        have gBo : ∀ q, gB σ2 q = gB σ1 q := fun q => by rw [hσ2]; rfl
        have gIo : ∀ q, q ≠ 48 → gI σ2 q = gI σ1 q := fun q hq => by rw [hσ2, gI_sI, if_neg hq, gI_sA]
        have g48 : gI σ2 48 = nI (od.length + 1) := by rw [hσ2, gI_sI, if_pos rfl]
        have f2 : frM σ1 σ2 := ⟨fun q _ a => gIo q a, fun q => by rw [hσ2]; rfl, fun q _ _ a => gAo q a, fun q _ => gBo q⟩
        have hRL2 : RL σ2 ys := ⟨RNm_eq e2.1 (gIo 20 (by decide)) (gAo 21 (by decide)) (gAo 22 (by decide)), fun i x hx => rrec_eq (e2.2 i x hx) (fun q hq => by rw [gAo q (by omega)]) (by rw [gBo])⟩
        have h6 : gA σ2 6 = gA σ 6 := (gAo 6 (by decide)).trans b6
        obtain ⟨σ', k1, k2, k3, k4, k5, k6⟩ := q_come_105 (F := F) (t := t) hm hRL2 hr1 hP hs4 hrok (fun q => by have := (hs2 q).2; omega) (fun q => by have := (hs2 q).1; omega) (fun σ' q => hZ σ' (q.trans h6)) (fun σ' q => hV σ' (q.trans h6))
        refine ⟨σ', k1, k2, okL_set hok1 (okR_cm hrok hs4 (fun q => by have := (hs2 q).2; omega) (fun q => by have := (hs2 q).1; omega)), ⟨?_, ?_, ?_⟩, frM_trans f1 (frM_trans f2 k3)⟩
        · rw [k4, g48, List.length_append]; rfl
        · rw [List.length_append]; exact hol
        · intro i d hd
          rw [k5, g49]
          by_cases ci : i < od.length
          · rw [List.getElem?_append_left ci] at hd
            rw [upd_ne (by omega)]
            exact ho1.2.2 i d hd
          · have hi : i = od.length := by
              have := (List.getElem?_eq_some_iff.mp hd).1
              rw [List.length_append] at this
              have h1 : [P].length = 1 := rfl
              omega
            rw [hi, List.getElem?_append_right (Nat.le_refl _), Nat.sub_self] at hd
            rw [hi, upd_eq, Option.some.inj hd]
      · rw [if_neg (show ¬ nI r.1 = 0 from fun q => c2 ((nI_eq (b := 0) (by omega) (by decide)).mp q)), if_neg c2]
        obtain ⟨σ', k1, k2, k3, k4, k5, k6⟩ := q_come_105 (F := F) (t := t) hm e2 hr1 hP hs4 hrok (fun q => by have := (hs2 q).2; omega) (fun q => by have := (hs2 q).1; omega) (fun σ' q => hZ σ' (q.trans b6)) (fun σ' q => hV σ' (q.trans b6))
        refine ⟨σ', k1, k2, okL_set hok1 (okR_cm hrok hs4 (fun q => by have := (hs2 q).2; omega) (fun q => by have := (hs2 q).1; omega)), ⟨k4.trans ho1.1, ho1.2.1, fun i d hd => by rw [k5]; exact ho1.2.2 i d hd⟩, frM_trans f1 k3⟩
    by_cases c3 : s = 3
    · rw [if_pos (show nI s = nI 3 by rw [c3]), Mr23 hm, bs, Ma23 hm hP, bs, rr.1]
      by_cases c4 : r.1 = 3
      · rw [if_pos (show nI r.1 = nI 3 by rw [c4]), if_pos ⟨c3, c4⟩]
        exact ⟨σ1, rfl, e2, hok1, ho1, f1⟩
      · rw [if_neg (fun q => c4 ((nI_eq (by omega) (by decide)).mp q)), if_neg (fun q => c4 q.2)]
        exact key
    · rw [if_neg (fun q => c3 ((nI_eq (by omega) (by decide)).mp q)), if_neg (fun q => c3 q.1)]
      exact key
end MCN
end
section
/-! the signatures of groups, in the reference -/
def RSg (σ : px_S) (sg : List (List Nat)) : Prop := gI σ 70 = nI sg.length ∧ sg.length ≤ 1536 ∧ ∀ i w, sg[i]? = some w → okN w ∧ ∃ p, gA σ 71 i = nI p ∧ gA σ 72 i = nI (p + w.length) ∧ p + w.length ≤ 65536 ∧ srcT (gA σ 6) p w
section MGA
variable {F m p : Nat} {h : px_H} {σ : px_S} {sg : List (List Nat)} {v w : List Nat} {k30 : Nat → Int32 → Int32 → Int32 → px_H → Option (Int32 × px_H)}
theorem q_iA_71f {i k f : Nat} {y z : Int32} (hf : 0 < f) : f_M_isAgain_71 F k30 f m y z (nI i) (bI false) (nI k) (mh m h σ) = k30 m y z (nI (i + 1)) (mh m h σ) := by
  obtain ⟨f, rfl⟩ : ∃ x, f = x + 1 := ⟨f - 1, by omega⟩
  unfold f_M_isAgain_71 f_M_isAgain_125
  rw [if_pos (show bI false = 0 from rfl), nI_add]
  split
  · rfl
  · rfl
theorem q_iA_71 (hm : m ≤ h.length) (hr : RSg σ sg) (hs : srcT (gA σ 6) p w) (hw : okN w) (hM : p + w.length ≤ 65536) {i : Nat} (hv : sg[i]? = some v) (hl : v.length = w.length) : ∀ (d k f : Nat), k + d = v.length → d < f → f_M_isAgain_71 F k30 f m (nI p) (nI (p + w.length)) (nI i) (bI true) (nI k) (mh m h σ) = (if v.drop k = w.drop k then some (bI true, mh m h σ) else k30 m (nI p) (nI (p + w.length)) (nI (i + 1)) (mh m h σ)) := by
  have hi : i < sg.length := (List.getElem?_eq_some_iff.mp hv).1
  have hwl := hr.2.1
  obtain ⟨ok, a, e1, e2, e3, e4⟩ := hr.2.2 i v hv
  have ok1 := ok.1
  intro d
  induction d with
  | zero =>
    intro k f hk hf
    obtain ⟨f, rfl⟩ : ∃ x, f = x + 1 := ⟨f - 1, by omega⟩
    unfold f_M_isAgain_71 f_M_isAgain_125 f_M_isAgain_130
    rw [pk_sub (by omega), Nat.add_sub_cancel_left, if_pos (nI_le (by omega) (by omega)), if_neg (show ¬ bI true = 0 by decide), List.drop_eq_nil_of_le (by omega), List.drop_eq_nil_of_le (by omega), if_pos rfl]
    rfl
  | succ d ih =>
    intro k f hk hf
    obtain ⟨f, rfl⟩ : ∃ x, f = x + 1 := ⟨f - 1, by omega⟩
    have hkv : k < v.length := by omega
    obtain ⟨x, hx⟩ : ∃ x, v[k]? = some x := ⟨v[k], List.getElem?_eq_getElem hkv⟩
    obtain ⟨y, hy⟩ : ∃ y, w[k]? = some y := ⟨w[k]'(by omega), List.getElem?_eq_getElem (by omega)⟩
    have hx2 := ok.2 x (List.mem_of_getElem? hx)
    have hy2 := hw.2 y (List.mem_of_getElem? hy)
    unfold f_M_isAgain_71 f_M_isAgain_117
    rw [pk_sub (by omega), Nat.add_sub_cancel_left, if_neg (nI_ge (by omega) (by omega)), if_neg (show ¬ bI true = 0 by decide), Mr6 hm, bs, Mr71 hm, bs, Ma71 hm (by omega), bs, e1, nI_add, Ma6 hm (by omega), bs, e4 k x hx, bs, nI_add, Ma6 hm (by omega), bs, hs k y hy, nI_add]
    by_cases c : x = y
    · rw [if_pos (by rw [c]), show nI 1 = bI true from rfl, ih (k + 1) f (by omega) (by omega)]
      by_cases c2 : v.drop (k + 1) = w.drop (k + 1)
      · rw [if_pos c2, if_pos ((drop_eq hkv hl).mpr ⟨by rw [hx, hy, c], c2⟩)]
      · rw [if_neg c2, if_neg (fun q => c2 ((drop_eq hkv hl).mp q).2)]
    · rw [if_neg (fun q => c ((byte_inj hx2 hy2).mp q)), show nI 0 = bI false from rfl, q_iA_71f (by omega), if_neg (fun q => c (by
        have := ((drop_eq hkv hl).mp q).1
        rw [hx, hy] at this
        exact Option.some.inj this))]
theorem q_iA_30 (hm : m ≤ h.length) (hF : 20 < F) (hr : RSg σ sg) (hs : srcT (gA σ 6) p w) (hw : okN w) (hM : p + w.length ≤ 65536) : ∀ (d i f : Nat), i + d = sg.length → d < f → f_M_isAgain_30 F f m (nI p) (nI (p + w.length)) (nI i) (mh m h σ) = (if (idx w i (sg.drop i)).isSome = true then some (bI true, mh m h σ) else f_M_isAgain_138 F m (nI p) (nI (p + w.length)) (mh m h σ)) := by
  have hl := hr.2.1
  intro d
  induction d with
  | zero =>
    intro i f hi hf
    obtain ⟨f, rfl⟩ : ∃ x, f = x + 1 := ⟨f - 1, by omega⟩
    unfold f_M_isAgain_30
    rw [Mg70 hm, bs, hr.1, if_pos (nI_le (by omega) (by omega)), List.drop_eq_nil_of_le (by omega), if_neg (by unfold idx; decide)]
  | succ d ih =>
    intro i f hi hf
    obtain ⟨f, rfl⟩ : ∃ x, f = x + 1 := ⟨f - 1, by omega⟩
    have hil : i < sg.length := by omega
    obtain ⟨v, hv⟩ : ∃ v, sg[i]? = some v := ⟨sg[i], List.getElem?_eq_getElem hil⟩
    have hd : sg.drop i = v :: sg.drop (i + 1) := by
      rw [List.drop_eq_getElem_cons hil]
      rw [List.getElem?_eq_getElem hil] at hv
      cases hv
      rfl
    obtain ⟨ok, a, e1, e2, e3, e4⟩ := hr.2.2 i v hv
    have ok1 := ok.1
    have ok2 := hw.1
    unfold f_M_isAgain_30 f_M_isAgain_66
    rw [Mg70 hm, bs, hr.1, if_neg (nI_ge (by omega) (by omega)), Mr72 hm, bs, Ma72 hm (by omega), bs, Mr71 hm, bs, Ma71 hm (by omega), bs, e1, e2, pk_sub (by omega), Nat.add_sub_cancel_left, pk_sub (by omega), Nat.add_sub_cancel_left, hd]
    unfold idx
    by_cases c : v.length = w.length
    · rw [if_pos (by rw [c]), show nI 1 = bI true from rfl, q_iA_71 hm hr hs hw hM hv c v.length 0 F (by omega) (by omega), List.drop_zero, List.drop_zero]
      by_cases c2 : v = w
      · rw [if_pos c2, if_pos c2, if_pos (show (some i).isSome = true from rfl)]
      · rw [if_neg c2, if_neg c2, ih (i + 1) f (by omega) (by omega)]
    · have := q_iA_71f (F := F) (m := m) (h := h) (σ := σ) (k30 := f_M_isAgain_30 F f) (i := i) (k := 0) (y := nI p) (z := nI (p + w.length)) (f := F) (by omega)
      rw [show bI false = nI 0 from rfl] at this
      rw [if_neg (fun q => c ((nI_eq (by omega) (by omega)).mp q)), this, if_neg (show ¬ v = w from fun q => c (by rw [q])), ih (i + 1) f (by omega) (by omega)]
/-- only the signatures have changed -/
def frS (σ σ' : px_S) : Prop := (∀ k, k ≠ 70 → gI σ' k = gI σ k) ∧ (∀ k, gJ σ' k = gJ σ k) ∧ (∀ k, k ≠ 71 → k ≠ 72 → gA σ' k = gA σ k) ∧ (∀ k, gB σ' k = gB σ k)
theorem q_isAgain {o n i : Nat} (hm : m ≤ h.length) (hF : 1536 < F) (hB : ∀ k, isB (gA σ 6 k)) (hw : w2 (cb (gA σ 6) o n) n) (hn : o + n ≤ 65536) (hi : i < oS (cb (gA σ 6) o n)) (hI : oI (cb (gA σ 6) o n) i < oM (cb (gA σ 6) o n)) (hg : yG (cb (gA σ 6) o n) (oI (cb (gA σ 6) o n) i) = true) (hr : RSg σ sg) (hl : sg.length < 1536) : ∃ σ', f_M_isAgain F m (nI o) (nI i) (mh m h σ) = some (bI (idx (yT (cb (gA σ 6) o n) (oI (cb (gA σ 6) o n) i)) 0 sg).isSome, mh m h σ') ∧ RSg σ' (ent (yT (cb (gA σ 6) o n) (oI (cb (gA σ 6) o n) i)) sg) ∧ frS σ σ' := by
  have hrk := w1_rk hw.1 hn
  obtain ⟨s1, s2, s3, s4⟩ := yT_src hB hw hn hI hg
  unfold f_M_isAgain
  rw [e_o hm, bs, q_info (Mmb hm hB) (by omega) hrk hi, xb_mk, e_o hm, bs, lN_i, q_nameAt (Mmb hm hB) (by omega) hw hn hI, xb_mk, e_o hm, bs, q_info (Mmb hm hB) (by omega) hrk hi, xb_mk, e_o hm, bs, lN_i, q_nameEnd hm hB (by omega) hw hn hI hg, xb_mk]
  rw [← s3] at s4 ⊢
  generalize yT (cb (gA σ 6) o n) (oI (cb (gA σ 6) o n) i) = w at *
  generalize o + (oP (cb (gA σ 6) o n) (oX (cb (gA σ 6) o n)) + yN (cb (gA σ 6) o n) (oI (cb (gA σ 6) o n) i)) = p at *
  rw [q_iA_30 hm (by omega) hr s1 s2 s4 sg.length 0 F (by omega) (by omega), List.drop_zero]
  unfold ent
  by_cases c : (idx w 0 sg).isSome = true
  · rw [if_pos c, if_pos c, c]
    exact ⟨σ, rfl, hr, fun _ _ => rfl, fun _ => rfl, fun _ _ _ => rfl, fun _ => rfl⟩
  · rw [if_neg c, if_neg c, Bool.eq_false_iff.mpr c]
    unfold f_M_isAgain_138
    rw [Mr71 hm, bs, Mg70 hm, bs, hr.1, Ms71 hm hl, bs, Mr72 hm, bs, Mg70 hm, bs, gI_sA, hr.1, Ms72 hm hl, bs, Mg70 hm, bs, gI_sA, gI_sA, hr.1, nI_add, Mp70 hm, bs]
    refine ⟨_, rfl, ⟨?_, ?_, ?_⟩, fun q hq => by rw [gI_sI, if_neg hq, gI_sA, gI_sA], fun _ => rfl, fun q a b => by rw [gA_sI, gA_sA, if_neg b, gA_sA, if_neg a], fun _ => rfl⟩
    · rw [List.length_append]; rfl
    · rw [List.length_append]; exact hl
    · intro j v hv
      show okN v ∧ ∃ a, upd (gA σ 71) sg.length (nI p) j = nI a ∧ upd (gA σ 72) sg.length (nI (p + w.length)) j = nI (a + v.length) ∧ a + v.length ≤ 65536 ∧ srcT (gA σ 6) a v
      by_cases cj : j < sg.length
      · rw [List.getElem?_append_left cj] at hv
        rw [upd_ne (by omega), upd_ne (by omega)]
        exact hr.2.2 j v hv
      · have hj : j = sg.length := by
          have := (List.getElem?_eq_some_iff.mp hv).1
          rw [List.length_append] at this
          have h1 : [w].length = 1 := rfl
          omega
        rw [hj, List.getElem?_append_right (Nat.le_refl _), Nat.sub_self] at hv
        rw [← Option.some.inj hv, hj, upd_eq, upd_eq]
        exact ⟨s2, p, rfl, rfl, s4, s1⟩
end MGA
end
section
/-! dropGroups of the reference -/
/-- what is known of the groups of an object that was read -/
def GP (b : Nat → Nat) (n : Nat) : Prop := ∀ i, 1 ≤ i → i < oS b → oT b i = 17 → (1 ≤ oZ b i ∧ oZ b i % 4 = 0 ∧ oI b i < oM b ∧ yG b (oI b i) = true) ∧ oP b i + oZ b i ≤ n ∧ ∀ j, 1 ≤ j → j < oZ b i / 4 → gN b i j < 24
/-- the sections of a group, from its j-th number on, c of them, are dropped -/
def mkD (t : Nat) (b : Nat → Nat) (i : Nat) : Nat → Nat → (Nat → Bool) → Nat → Bool
  | _, 0, dr => dr
  | j, c + 1, dr => mkD t b i (j + 1) c (fun x => if x = 24 * t + gN b i j then true else dr x)
/-- one section: (dropped sections, dropped groups, signatures) -/
def dg1 (t : Nat) (b : Nat → Nat) (i : Nat) (s : (Nat → Bool) × Nat × List (List Nat)) : (Nat → Bool) × Nat × List (List Nat) :=
  if oT b i = 17 ∧ gN b i 0 = 1 then (if (idx (yT b (oI b i)) 0 s.2.2).isSome = true then (mkD t b i 1 (oZ b i / 4 - 1) s.1, s.2.1 + 1, s.2.2) else (s.1, s.2.1, s.2.2 ++ [yT b (oI b i)])) else s
/-- g, c times over, from i on -/
def itr {α : Type} (g : Nat → α → α) : Nat → Nat → α → α
  | _, 0, s => s
  | i, c + 1, s => itr g (i + 1) c (g i s)
theorem itr_0 {α : Type} {g : Nat → α → α} {i : Nat} {s : α} : itr g i 0 s = s := rfl
theorem itr_s {α : Type} {g : Nat → α → α} {i c : Nat} {s : α} : itr g i (c + 1) s = itr g (i + 1) c (g i s) := rfl
/-- only dropped sections and signatures have changed -/
def frR (σ σ' : px_S) : Prop := (∀ k, k ≠ 69 → k ≠ 70 → gI σ' k = gI σ k) ∧ (∀ k, gJ σ' k = gJ σ k) ∧ (∀ k, k ≠ 65 → k ≠ 71 → k ≠ 72 → gA σ' k = gA σ k) ∧ (∀ k, gB σ' k = gB σ k)
theorem frR_refl (σ : px_S) : frR σ σ := ⟨fun _ _ _ => rfl, fun _ => rfl, fun _ _ _ _ => rfl, fun _ => rfl⟩
theorem frR_trans {σ σ1 σ2 : px_S} (h : frR σ σ1) (g : frR σ1 σ2) : frR σ σ2 := ⟨fun k a b => (g.1 k a b).trans (h.1 k a b), fun k => (g.2.1 k).trans (h.2.1 k), fun k a1 a2 a3 => (g.2.2.1 k a1 a2 a3).trans (h.2.2.1 k a1 a2 a3), fun k => (g.2.2.2 k).trans (h.2.2.2 k)⟩
theorem frR_S {σ σ' : px_S} (h : frS σ σ') : frR σ σ' := ⟨fun k _ a => h.1 k a, h.2.1, fun k _ a b => h.2.2.1 k a b, h.2.2.2⟩
theorem RSg_eq {σ σ' : px_S} {sg : List (List Nat)} (h : RSg σ sg) (h70 : gI σ' 70 = gI σ 70) (h71 : gA σ' 71 = gA σ 71) (h72 : gA σ' 72 = gA σ 72) (h6 : gA σ' 6 = gA σ 6) : RSg σ' sg := by
  unfold RSg at h ⊢
  rw [h70, h71, h72, h6]; exact h
section MDR
variable {F m o n t : Nat} {h : px_H} {k8 : Nat → Int32 → Int32 → Int32 → px_H → Option (Unit × px_H)}
theorem q_dG_63 {i : Nat} {b : Nat → Nat} (hm : m ≤ h.length) (hF : 24 < F) (ht : t < 64) (hw : w1 b n) (hn : o + n ≤ 65536) (hi : i < oS b) (hP : oP b i + oZ b i ≤ n) (hg : ∀ j, 1 ≤ j → j < oZ b i / 4 → gN b i j < 24) : ∀ (c j f : Nat) (σ : px_S) (dr : Nat → Bool), (∀ k, isB (gA σ 6 k)) → cb (gA σ 6) o n = b → 1 ≤ j → c = oZ b i / 4 - j → j ≤ oZ b i / 4 → c < f → RDr σ dr → ∃ σ', f_M_dropGroups_63 F k8 f m (nI t) (nI o) (nI i) (nI j) (mh m h σ) = k8 m (nI t) (nI o) (nI (i + 1)) (mh m h σ') ∧ RDr σ' (mkD t b i j c dr) ∧ (∀ k, gI σ' k = gI σ k) ∧ (∀ k, gJ σ' k = gJ σ k) ∧ (∀ k, k ≠ 65 → gA σ' k = gA σ k) ∧ (∀ k, gB σ' k = gB σ k) := by
  intro c
  induction c with
  | zero =>
    intro j f σ dr hB hcb h1 hc hj hf hd
    obtain ⟨f, rfl⟩ : ∃ x, f = x + 1 := ⟨f - 1, by omega⟩
    have hrk : rk (gA σ 6) o n := w1_rk (by rw [hcb]; exact hw) hn
    refine ⟨σ, ?_, hd, fun _ => rfl, fun _ => rfl, fun _ _ => rfl, fun _ => rfl⟩
    unfold f_M_dropGroups_63 f_M_dropGroups_106
    rw [e_o hm, bs, q_size (Mmb hm hB) (by omega) hrk (by rw [hcb]; exact hi), xb_mk, hcb]
    generalize oZ b i = Z at *
    rw [show (4 : Int64) = lN 4 from rfl, pk_lDiv (by omega) (by decide) (by decide), nI_l (by omega), if_pos ((pk_lLE (by omega) (by omega)).mpr (by omega)), nI_add]
  | succ c ih =>
    intro j f σ dr hB hcb h1 hc hj hf hd
    obtain ⟨f, rfl⟩ : ∃ x, f = x + 1 := ⟨f - 1, by omega⟩
    have hrk : rk (gA σ 6) o n := w1_rk (by rw [hcb]; exact hw) hn
    have hgj := hg j h1 (by omega)
    obtain ⟨σ1, hσ1⟩ : ∃ x, x = sA σ 65 (upd (gA σ 65) (24 * t + gN b i j) (nI 1)) := ⟨_, rfl⟩
    have g65 : gA σ1 65 = upd (gA σ 65) (24 * t + gN b i j) (nI 1) := by rw [hσ1, gA_sA, if_pos rfl]
    have gAo : ∀ q, q ≠ 65 → gA σ1 q = gA σ q := fun q hq => by rw [hσ1, gA_sA, if_neg hq]
    have hd1 : RDr σ1 (fun x => if x = 24 * t + gN b i j then true else dr x) := by
      intro x hx
      show gA σ1 65 x = bI (if x = 24 * t + gN b i j then true else dr x)
      rw [g65]
      by_cases e : x = 24 * t + gN b i j
      · rw [e, upd_eq, if_pos rfl]; rfl
      · rw [upd_ne e, if_neg e]; exact hd x hx
    obtain ⟨σ', i1, i2, i3, i4, i5, i6⟩ := ih (j + 1) f σ1 _ (by rw [gAo 6 (by decide)]; exact hB) (by rw [gAo 6 (by decide)]; exact hcb) (by omega) (by omega) (by omega) (by omega) hd1
    refine ⟨σ', ?_, i2, fun q => by rw [i3, hσ1]; rfl, fun q => by rw [i4, hσ1]; rfl, fun q hq => (i5 q hq).trans (gAo q hq), fun q => by rw [i6, hσ1]; rfl⟩
    have hgn := q_groupNumber (F := F) (h := mh m h σ) (m := m) (i := i) (j := j) (Mmb hm hB) (by omega) hrk (by rw [hcb]; exact hi) (by rw [hcb]; omega)
    unfold f_M_dropGroups_63
    rw [e_o hm, bs, q_size (Mmb hm hB) (by omega) hrk (by rw [hcb]; exact hi), xb_mk, hcb, e_o hm, hgn, hcb]
    generalize oZ b i = Z at *
    generalize gN b i j = G at *
    rw [show (4 : Int64) = lN 4 from rfl, pk_lDiv (by omega) (by decide) (by decide), nI_l (by omega), if_neg (fun q => absurd ((pk_lLE (by omega) (by omega)).mp q) (by omega)), Mr65 hm, bs, bs, xb_mk, lN_i, pk_mul, nI_add, show nI 1 &&& 1 = nI 1 from rfl, Ms65 hm (by omega), bs, ← hσ1, nI_add]
    exact i1
theorem q_dG_8 {b : Nat → Nat} (hm : m ≤ h.length) (hF : 65536 < F) (ht : t < 64) (hw : w2 b n) (hn : o + n ≤ 65536) (hg : GP b n) : ∀ (c i f : Nat) (σ : px_S) (s : (Nat → Bool) × Nat × List (List Nat)), (∀ k, isB (gA σ 6 k)) → cb (gA σ 6) o n = b → 1 ≤ i → i + c = oS b → c < f → RDr σ s.1 → gI σ 69 = nI s.2.1 → RSg σ s.2.2 → s.2.2.length + c ≤ 1536 → ∃ σ', f_M_dropGroups_8 F f m (nI t) (nI o) (nI i) (mh m h σ) = some ((), mh m h σ') ∧ RDr σ' (itr (dg1 t b) i c s).1 ∧ gI σ' 69 = nI (itr (dg1 t b) i c s).2.1 ∧ RSg σ' (itr (dg1 t b) i c s).2.2 ∧ frR σ σ' := by
  have hs24 : oS b ≤ 24 := hw.1.2.1.2
  intro c
  induction c with
  | zero =>
    intro i f σ s hB hcb h1 hc hf hd h69 hsg hl
    obtain ⟨f, rfl⟩ : ∃ x, f = x + 1 := ⟨f - 1, by omega⟩
    have hrk : rk (gA σ 6) o n := w1_rk (by rw [hcb]; exact hw.1) hn
    rw [itr_0]
    refine ⟨σ, ?_, hd, h69, hsg, frR_refl σ⟩
    unfold f_M_dropGroups_8 f_M_dropGroups_112
    rw [e_o hm, bs, q_sections (Mmb hm hB) (by omega) hrk.1, xb_mk, hcb, if_pos (nI_le (by omega) (by omega))]
  | succ c ih =>
    intro i f σ s hB hcb h1 hc hf hd h69 hsg hl
    obtain ⟨f, rfl⟩ : ∃ x, f = x + 1 := ⟨f - 1, by omega⟩
    have hrk : rk (gA σ 6) o n := w1_rk (by rw [hcb]; exact hw.1) hn
    have hi : i < oS b := by omega
    have step : ∀ σ1 s1, frR σ σ1 → RDr σ1 s1.1 → gI σ1 69 = nI s1.2.1 → RSg σ1 s1.2.2 → s1.2.2.length ≤ s.2.2.length + 1 → dg1 t b i s = s1 → ∃ σ', f_M_dropGroups_8 F f m (nI t) (nI o) (nI (i + 1)) (mh m h σ1) = some ((), mh m h σ') ∧ RDr σ' (itr (dg1 t b) i (c + 1) s).1 ∧ gI σ' 69 = nI (itr (dg1 t b) i (c + 1) s).2.1 ∧ RSg σ' (itr (dg1 t b) i (c + 1) s).2.2 ∧ frR σ σ' := by
      intro σ1 s1 a1 a2 a3 a4 a5 a6
      have g6 : gA σ1 6 = gA σ 6 := a1.2.2.1 6 (by decide) (by decide) (by decide)
      obtain ⟨σ', j1, j2, j3, j4, j5⟩ := ih (i + 1) f σ1 s1 (by rw [g6]; exact hB) (by rw [g6]; exact hcb) (by omega) (by omega) (by omega) a2 a3 a4 (by omega)
      rw [itr_s, a6]
      exact ⟨σ', j1, j2, j3, j4, frR_trans a1 j5⟩
    unfold f_M_dropGroups_8 f_M_dropGroups_106
    rw [e_o hm, bs, q_sections (Mmb hm hB) (by omega) hrk.1, xb_mk, hcb, if_neg (nI_ge (by omega) (by omega)), e_o hm, bs, q_isGroup (Mmb hm hB) (by omega) hrk (by rw [hcb]; exact hi), xb_mk, hcb, nI_add]
    by_cases c1 : oT b i = 17
    · obtain ⟨⟨z1, z2, z3, z4⟩, z5, z6⟩ := hg i h1 hi c1
      have hgn := q_groupNumber (F := F) (h := mh m h σ) (m := m) (i := i) (j := 0) (Mmb hm hB) (by omega) hrk (by rw [hcb]; exact hi) (by rw [hcb]; omega)
      have hg0 : gN b i 0 < 2 ^ 32 := by
        have := le_lt (cb_lt (gA σ 6) o n) (oP b i + 4 * 0) 4
        rw [hcb] at this
        exact this
      rw [decide_eq_true c1, if_neg (show ¬ bI true = 0 by decide), e_o hm, bs, hgn, xb_mk, hcb]
      by_cases c2 : gN b i 0 = 1
      · rw [if_pos (by rw [c2])]
        obtain ⟨σ1, e1, e2, e3⟩ := q_isAgain (F := F) (sg := s.2.2) (o := o) (n := n) (i := i) hm (by omega) hB (by rw [hcb]; exact hw) hn (by rw [hcb]; exact hi) (by rw [hcb]; exact z3) (by rw [hcb]; exact z4) hsg (by omega)
        rw [hcb] at e1 e2
        rw [e_o hm, bs, e1, xb_mk]
        have f1 := frR_S e3
        have d1 : RDr σ1 s.1 := by
          intro x hx
          rw [e3.2.2.1 65 (by decide) (by decide)]; exact hd x hx
        have i69 : gI σ1 69 = nI s.2.1 := (e3.1 69 (by decide)).trans h69
        unfold ent at e2
        by_cases c3 : (idx (yT b (oI b i)) 0 s.2.2).isSome = true
        · rw [if_pos c3] at e2
          rw [c3, if_neg (show ¬ bI true = 0 by decide), Mg69 hm, bs, i69, nI_add, Mp69 hm, bs]
          obtain ⟨σ2, hσ2⟩ : ∃ x, x = sI σ1 69 (nI (s.2.1 + 1)) := ⟨_, rfl⟩
          rw [← hσ2]
          have g6 : gA σ2 6 = gA σ 6 := by rw [hσ2, gA_sI]; exact f1.2.2.1 6 (by decide) (by decide) (by decide)
          obtain ⟨σ3, k1, k2, k3, k4, k5, k6⟩ := q_dG_63 (F := F) (k8 := f_M_dropGroups_8 F f) (σ := σ2) (dr := s.1) (j := 1) (f := F) (c := oZ b i / 4 - 1) hm (by omega) ht hw.1 hn hi z5 z6 (by rw [g6]; exact hB) (by rw [g6]; exact hcb) (by omega) rfl (by omega) (by omega) (by rw [hσ2]; exact d1)
          rw [k1]
          have hd1 : dg1 t b i s = (mkD t b i 1 (oZ b i / 4 - 1) s.1, s.2.1 + 1, s.2.2) := by unfold dg1; rw [if_pos ⟨c1, c2⟩, if_pos c3]
          generalize mkD t b i 1 (oZ b i / 4 - 1) s.1 = D at k2 hd1
          refine step σ3 (D, s.2.1 + 1, s.2.2) ?_ k2 ?_ ?_ (Nat.le_succ _) hd1
          · refine frR_trans f1 ⟨fun q a b => ?_, fun q => ?_, fun q a b c => ?_, fun q => ?_⟩
            · rw [k3, hσ2, gI_sI, if_neg a]
            · rw [k4, hσ2]; rfl
            · rw [k5 q a, hσ2, gA_sI]
            · rw [k6, hσ2]; rfl
          · rw [k3, hσ2, gI_sI, if_pos rfl]
          · exact RSg_eq e2 (by rw [k3, hσ2, gI_sI, if_neg (by decide)]) (by rw [k5 71 (by decide), hσ2, gA_sI]) (by rw [k5 72 (by decide), hσ2, gA_sI]) (by rw [k5 6 (by decide), hσ2, gA_sI])
        · rw [if_neg c3] at e2
          rw [Bool.eq_false_iff.mpr c3, if_pos (show bI false = 0 from rfl)]
          have hd1 : dg1 t b i s = (s.1, s.2.1, s.2.2 ++ [yT b (oI b i)]) := by unfold dg1; rw [if_pos ⟨c1, c2⟩, if_neg c3]
          generalize yT b (oI b i) = Y at e2 hd1
          obtain ⟨sg', hsg'⟩ : ∃ x, x = s.2.2 ++ [Y] := ⟨_, rfl⟩
          rw [← hsg'] at e2 hd1
          exact step σ1 (s.1, s.2.1, sg') f1 d1 i69 e2 (by show sg'.length ≤ _; rw [hsg', List.length_append]; exact Nat.le_refl _) hd1
      · rw [if_neg (fun q => c2 ((lEQ (by omega) (by decide)).mp q))]
        exact step σ s (frR_refl σ) hd h69 hsg (by omega) (by unfold dg1; rw [if_neg (fun q => c2 q.2)])
    · rw [decide_eq_false c1, if_pos (show bI false = 0 from rfl)]
      exact step σ s (frR_refl σ) hd h69 hsg (by omega) (by unfold dg1; rw [if_neg (fun q => c1 q.1)])
end MDR
end
section
/-! what is known of an object that was read -/
theorem gl_1 {b : Nat → Nat} {i : Nat} : ∀ {c j : Nat} {q : Nat → Bool}, (gl b i j c q).1 = true → ∀ x, j ≤ x → x < j + c → gN b i x < oS b
  | 0, j, q, _, x, h1, h2 => absurd h2 (by omega)
  | c + 1, j, q, h, x, h1, h2 => by
    rw [gl_s] at h
    by_cases e : gN b i j < 1 ∨ oS b ≤ gN b i j ∨ q (gN b i j) = true
    · rw [if_pos e] at h; cases h
    · rw [if_neg e] at h
      by_cases ex : x = j
      · rw [ex]
        exact Nat.lt_of_not_le (fun h3 => e (Or.inr (Or.inl h3)))
      · exact gl_1 h x (by omega) (by omega)
theorem gs_1 {b : Nat → Nat} : ∀ (c i : Nat) (q : Nat → Bool), gs b i c q = true → ∀ x, i ≤ x → x < i + c → oT b x = 17 → gH b x = true ∧ ∀ y, 1 ≤ y → y < 1 + (oZ b x / 4 - 1) → gN b x y < oS b := by
  intro c
  induction c with
  | zero =>
    intro i q _ x h1 h2 _
    exact absurd h2 (by omega)
  | succ c ih =>
    intro i q h x h1 h2 hx
    rw [gs_s] at h
    by_cases ex : x = i
    · rw [ex] at hx ⊢
      rw [if_pos hx] at h
      by_cases e1 : gH b i = true
      · rw [if_pos e1] at h
        by_cases e2 : (gl b i 1 (oZ b i / 4 - 1) q).1 = true
        · exact ⟨e1, gl_1 e2⟩
        · rw [if_neg e2] at h; cases h
      · rw [if_neg e1] at h; cases h
    · by_cases e : oT b i = 17
      · rw [if_pos e] at h
        by_cases e1 : gH b i = true
        · rw [if_pos e1] at h
          by_cases e2 : (gl b i 1 (oZ b i / 4 - 1) q).1 = true
          · rw [if_pos e2] at h
            exact ih (i + 1) _ h x (by omega) (by omega) hx
          · rw [if_neg e2] at h; cases h
        · rw [if_neg e1] at h; cases h
      · rw [if_neg e] at h
        exact ih (i + 1) _ h x (by omega) (by omega) hx
theorem eSym_y {b : Nat → Nat} (h : eSym b = 0) : ∀ k, 1 ≤ k → k < oM b → yOK b k = true := by
  intro k h1 hk
  have c := w2_M0 hk
  have hs := eSym_w h c
  unfold eSym at h
  by_cases c1 : 1 < cnt (fun i => decide (oT b i = 2)) 1 (oS b - 1)
  · rw [if_pos c1] at h; exact absurd h (by decide)
  · rw [if_neg c1, if_neg c, if_pos hs] at h
    by_cases c2 : al (yOK b) 1 (oM b - 1) = true
    · exact al_iff.mp c2 k h1 (by omega)
    · rw [if_neg c2] at h; exact absurd h (by decide)
theorem eObj_0 {b : Nat → Nat} {n : Nat} (h : eObj b n = 0) : w2 b n ∧ (∀ k, 1 ≤ k → k < oM b → yOK b k = true) ∧ GP b n := by
  unfold eObj at h
  by_cases c1 : n < 64 ∨ oH b = false
  · rw [if_pos c1] at h; cases h
  · rw [if_neg c1] at h
    by_cases c2 : 1 ≤ oS b ∧ oS b ≤ 24 ∧ oR b + 64 * oS b ≤ n ∧ oT b 0 = 0
    · rw [if_neg (fun q => q c2)] at h
      by_cases c3 : fst0 (eSec b n) 0 (oS b) = 0
      · rw [if_neg (fun q => q c3)] at h
        by_cases c4 : eSym b = 0
        · rw [if_neg (fun q => q c4)] at h
          by_cases c5 : eSit b = 0
          · rw [if_neg (fun q => q c5)] at h
            have hsec := fun i (hi : i < oS b) => eSec_w (fst0_0 c3 i (Nat.zero_le _) (by omega))
            have hw1 : w1 b n := ⟨by omega, ⟨c2.1, c2.2.1⟩, c2.2.2.1, fun i hi => (hsec i hi).1, fun i hi => (hsec i hi).2.1⟩
            have hy := eSym_y c4
            refine ⟨⟨hw1, eSym_w c4⟩, hy, ?_⟩
            intro i h1 hi ht
            have hgs : gs b 1 (oS b - 1) (fun _ => false) = true := by
              unfold eGrp at h
              by_cases c6 : gs b 1 (oS b - 1) (fun _ => false) = true
              · exact c6
              · rw [if_neg c6] at h; cases h
            obtain ⟨g1, g2⟩ := gs_1 (oS b - 1) 1 _ hgs i h1 (by omega) ht
            have g3 := of_decide_eq_true g1
            have h24 := c2.2.1
            refine ⟨⟨g3.1, g3.2.1, g3.2.2.2.2.2.1, ?_⟩, (hsec i hi).1 (by rw [ht]; decide) (by rw [ht]; decide), fun j a1 a2 => ?_⟩
            · exact (yOK_n (hy _ g3.2.2.2.2.1 g3.2.2.2.2.2.1) g3.2.2.2.2.2.2.1).2.1
            · have := g2 j a1 (by omega)
              omega
          · rw [if_pos c5] at h; exact absurd h c5
        · rw [if_pos c4] at h; exact absurd h c4
      · rw [if_pos c3] at h; exact absurd h c3
    · rw [if_pos c2] at h; cases h
end
section
/-! OUT of the reference; say -/
def ROu (σ : px_S) (n : Nat) (b : Nat → Nat) : Prop := gI σ 4 = nI n ∧ n ≤ 65536 ∧ (∀ k, isB (gA σ 3 k)) ∧ cb (gA σ 3) 0 n = b
/-- the bytes of a list -/
def lb (w : List Nat) (i : Nat) : Nat := w.getD i 0
section MSY
variable {F m p M ks pa : Nat} {h : px_H} {w : List Nat}
theorem q_say_3 (hm : m ≤ h.length) (hT : ∀ (σ : px_S) i, i < M → xaI (mh m h σ) 0 pa (nI i) = some (gA σ ks i)) (hks : ks ≠ 3) (hw : okN w) (hM : p + w.length ≤ M) : ∀ (d k f : Nat) (σ : px_S) (B : Nat → Int32), k + d = w.length → d < f → srcT (gA σ ks) p w → gA σ 3 = put B (fun j => gA σ ks (p + j)) 0 k → f_M_say_3 F f m pa (nI p) (nI w.length) (nI k) (mh m h σ) = some ((), mh m h (sI (sA σ 3 (put B (fun j => gA σ ks (p + j)) 0 w.length)) 4 (nI w.length))) := by
  have hwl := hw.1
  intro d
  induction d with
  | zero =>
    intro k f σ B hk hf hs h3
    obtain ⟨f, rfl⟩ : ∃ x, f = x + 1 := ⟨f - 1, by omega⟩
    unfold f_M_say_3 f_M_say_28
    rw [if_pos (nI_le (by omega) (by omega)), Mp4 hm, bs, show w.length = k by omega, ← h3, sA_self]
  | succ d ih =>
    intro k f σ B hk hf hs h3
    obtain ⟨f, rfl⟩ : ∃ x, f = x + 1 := ⟨f - 1, by omega⟩
    obtain ⟨y, hy⟩ : ∃ y, w[k]? = some y := ⟨w[k]'(by omega), List.getElem?_eq_getElem (by omega)⟩
    have hB : isB (gA σ ks (p + k)) := by
      rw [hs k y hy]
      exact isB_n8 y (hw.2 y (List.mem_of_getElem? hy))
    have e : gA (sA σ 3 (put B (fun j => gA σ ks (p + j)) 0 (k + 1))) ks = gA σ ks := by rw [gA_sA, if_neg hks]
    have hps := put_s B (fun j => gA σ ks (p + j)) 0 k
    rw [Nat.zero_add] at hps
    unfold f_M_say_3
    rw [if_neg (nI_ge (by omega) (by omega)), Mr3 hm, bs, nI_add, hT σ (p + k) (by omega), bs, isB_n hB, Ms3 hm (by omega), bs, h3]
    rw [show upd (put B (fun j => gA σ ks (p + j)) 0 k) k (gA σ ks (p + k)) = _ from hps, nI_add]
    have := ih (k + 1) f (sA σ 3 (put B (fun j => gA σ ks (p + j)) 0 (k + 1))) B (by omega) (by omega) (by rw [e]; exact hs) (by rw [e]; rfl)
    rw [e, sA_sA] at this
    exact this
theorem q_say {σ : px_S} (hm : m ≤ h.length) (hF : 20 < F) (hT : ∀ (σ : px_S) i, i < M → xaI (mh m h σ) 0 pa (nI i) = some (gA σ ks i)) (hks : ks ≠ 3) (hw : okN w) (hs : srcT (gA σ ks) p w) (hM : p + w.length ≤ M) (hB : ∀ k, isB (gA σ 3 k)) : ∃ σ', f_M_say F m pa (nI p) (nI w.length) (mh m h σ) = some ((), mh m h σ') ∧ ROu σ' w.length (lb w) ∧ (∀ k, k ≠ 4 → gI σ' k = gI σ k) ∧ (∀ k, gJ σ' k = gJ σ k) ∧ (∀ k, k ≠ 3 → gA σ' k = gA σ k) ∧ (∀ k, gB σ' k = gB σ k) := by
  have hwl := hw.1
  refine ⟨sI (sA σ 3 (put (gA σ 3) (fun j => gA σ ks (p + j)) 0 w.length)) 4 (nI w.length), ?_, ⟨?_, by omega, ?_, ?_⟩, fun k hk => by rw [gI_sI, if_neg hk, gI_sA], fun _ => rfl, fun k hk => by rw [gA_sI, gA_sA, if_neg hk], fun _ => rfl⟩
  · unfold f_M_say
    exact q_say_3 hm hT hks hw hM w.length 0 F σ (gA σ 3) (by omega) (by omega) hs (put_0 _ _ _).symm
  · rw [gI_sI, if_pos rfl]
  · intro k
    show isB (put (gA σ 3) (fun j => gA σ ks (p + j)) 0 w.length k)
    unfold put
    split
    · rename_i c
      obtain ⟨y, hy⟩ : ∃ y, w[k - 0]? = some y := ⟨w[k - 0]'(by omega), List.getElem?_eq_getElem (by omega)⟩
      show isB (gA σ ks (p + (k - 0)))
      rw [hs _ y hy]
      exact isB_n8 y (hw.2 y (List.mem_of_getElem? hy))
    · exact hB k
  · funext i
    show (if i < w.length then b8 (put (gA σ 3) (fun j => gA σ ks (p + j)) 0 w.length (0 + i)) else 0) = w.getD i 0
    rw [List.getD_eq_getElem?_getD]
    by_cases c : i < w.length
    · obtain ⟨y, hy⟩ : ∃ y, w[i]? = some y := ⟨w[i], List.getElem?_eq_getElem c⟩
      rw [if_pos c, hy]
      unfold put
      rw [if_pos (by omega), Nat.zero_add, Nat.sub_zero]
      show b8 (gA σ ks (p + i)) = _
      rw [hs i y hy, b8_n y (hw.2 y (List.mem_of_getElem? hy))]
      rfl
    · rw [if_neg c, List.getElem?_eq_none (by omega)]
      rfl
end MSY
end
section
/-! the symbols of an object taken, in the reference -/
theorem idx_mem {w : List Nat} : ∀ {l : List (List Nat)} {k i : Nat}, l[i]? = some w → (idx w k l).isSome = true
  | [], k, i, h => by rw [List.getElem?_nil] at h; cases h
  | v :: l, k, i, h => by
    unfold idx
    by_cases c : v = w
    · rw [if_pos c]; rfl
    · rw [if_neg c]
      cases i with
      | zero => exact absurd (Option.some.inj h) c
      | succ i => exact idx_mem (i := i) h
section MTK
variable {dr : Nat → Bool} {t k : Nat} {b : Nat → Nat}
theorem comS_len {st : px_NL × List Nat} : (comS dr t b k st).2.1.length ≤ st.1.length + 1 ∧ (comS dr t b k st).2.2.length ≤ st.2.length + 1 := by
  have h1 := entL_len (w := yT b k) (xs := st.1)
  unfold comS
  split
  · exact ⟨by dsimp only; rw [setR_len]; exact h1, Nat.le_succ _⟩
  · split
    · exact ⟨h1, Nat.le_succ _⟩
    · refine ⟨by dsimp only; rw [setR_len]; exact h1, ?_⟩
      dsimp only
      split
      · rw [List.length_append]; exact Nat.le_refl _
      · exact Nat.le_succ _
theorem comS_f {st : px_NL × List Nat} (h : (comS dr t b k st).1 = false) : (comS dr t b k st).2.1 = entL (yT b k) st.1 := by
  unfold comS at h ⊢
  split at h
  · cases h
  · rename_i c1
    split at h
    · rename_i c2
      rw [if_neg c1, if_pos c2]
    · cases h
variable {F m o n : Nat} {h : px_H} {σ : px_S}
/-- a double is told: OUT is its name, the answer 1 -/
theorem q_double {xs : px_NL} (hm : m ≤ h.length) (hF : 4096 < F) (hB : ∀ k, isB (gA σ 6 k)) (hw : w2 (cb (gA σ 6) o n) n) (hn : o + n ≤ 65536) (hk : k < oM (cb (gA σ 6) o n)) (hg : yG (cb (gA σ 6) o n) k = true) (hr : RL σ (entL (yT (cb (gA σ 6) o n) k) xs)) (h3 : ∀ k, isB (gA σ 3 k)) (hl : (entL (yT (cb (gA σ 6) o n) k) xs).length ≤ 4096) : ∃ σ' q, f_M_nameOf F m (nI o) (nI k) (mh m h σ) = some (nI q, mh m h σ) ∧ q < 4096 ∧ gA σ 22 q = nI (yT (cb (gA σ 6) o n) k).length ∧ f_M_say F m (m + 13) (nI (20 * q)) (nI (yT (cb (gA σ 6) o n) k).length) (mh m h σ) = some ((), mh m h σ') ∧ ROu σ' (yT (cb (gA σ 6) o n) k).length (lb (yT (cb (gA σ 6) o n) k)) ∧ (∀ k, k ≠ 4 → gI σ' k = gI σ k) ∧ (∀ k, gJ σ' k = gJ σ k) ∧ (∀ k, k ≠ 3 → gA σ' k = gA σ k) ∧ (∀ k, gB σ' k = gB σ k) := by
  have hno := q_nameOf (F := F) hm hF hB hw hn hk hg hr
  obtain ⟨r, p1, p2⟩ := plc_at (w := yT (cb (gA σ 6) o n) k) (xs := xs)
  generalize yT (cb (gA σ 6) o n) k = w at *
  generalize entL w xs = ys at *
  have hmem : (ys.map Prod.fst)[plc w (xs.map Prod.fst)]? = some w := by rw [List.getElem?_map, p1]; rfl
  have hs := idx_mem (k := 0) hmem
  obtain ⟨q, hq⟩ := Option.isSome_iff_exists.mp hs
  have hq1 := idx_some hq
  have hq2 := idx_lt hq
  rw [Nat.sub_zero] at hq1
  rw [List.length_map] at hq2
  rw [hq] at hno
  obtain ⟨ok, e1, e2⟩ := hr.1.2.2 q w hq1
  have ok1 := ok.1
  obtain ⟨σ', a1, a2, a3⟩ := q_say (F := F) (p := 20 * q) (pa := m + 13) (ks := 21) (M := 81920) hm (by omega) (fun σ i hi => Ma21 hm hi) (by decide) ok e2 (by omega) h3
  exact ⟨σ', q, hno, by omega, e1, a1, a2, a3⟩
end MTK
end
section
/-! take of the reference: its symbols -/
abbrev px_TS : Type := Nat × px_NL × List Nat × Option (List Nat)
def tk1 (dr : Nat → Bool) (t : Nat) (b : Nat → Nat) (k : Nat) (s : px_TS) : px_TS :=
  if yB b k = 0 then s
  else if s.1 = 1 then (1, entL (yT b k) s.2.1, s.2.2.1, s.2.2.2)
  else if (comS dr t b k (s.2.1, s.2.2.1)).1 = true then (s.1, (comS dr t b k (s.2.1, s.2.2.1)).2.1, (comS dr t b k (s.2.1, s.2.2.1)).2.2, s.2.2.2)
  else (1, (comS dr t b k (s.2.1, s.2.2.1)).2.1, (comS dr t b k (s.2.1, s.2.2.1)).2.2, some (yT b k))
/-- OUT since σ0 -/
def OU (σ0 σ : px_S) (bl : Option (List Nat)) : Prop := (bl = none → gI σ 4 = gI σ0 4 ∧ gA σ 3 = gA σ0 3) ∧ ∀ w, bl = some w → ROu σ w.length (lb w)
def frW (σ σ' : px_S) : Prop := (∀ q, q ≠ 4 → q ≠ 13 → q ≠ 20 → q ≠ 48 → gI σ' q = gI σ q) ∧ (∀ q, gJ σ' q = gJ σ q) ∧ (∀ q, (q < 21 ∨ 28 < q) → q ≠ 3 → q ≠ 73 → q ≠ 49 → gA σ' q = gA σ q) ∧ (∀ q, q ≠ 30 → gB σ' q = gB σ q)
theorem frW_refl (σ : px_S) : frW σ σ := ⟨fun _ _ _ _ _ => rfl, fun _ => rfl, fun _ _ _ _ _ => rfl, fun _ _ => rfl⟩
theorem frW_trans {σ σ1 σ2 : px_S} (h : frW σ σ1) (g : frW σ1 σ2) : frW σ σ2 := ⟨fun k a b c d => (g.1 k a b c d).trans (h.1 k a b c d), fun k => (g.2.1 k).trans (h.2.1 k), fun k a1 a2 a3 a4 => (g.2.2.1 k a1 a2 a3 a4).trans (h.2.2.1 k a1 a2 a3 a4), fun k a => (g.2.2.2 k a).trans (h.2.2.2 k a)⟩
theorem frW_M {σ σ' : px_S} (h : frM σ σ') : frW σ σ' := ⟨fun k _ _ c d => h.1 k c d, h.2.1, fun k a _ c d => h.2.2.1 k a c d, h.2.2.2⟩
theorem OU_M {σ0 σ σ' : px_S} {bl : Option (List Nat)} (h : OU σ0 σ bl) (f : frM σ σ') : OU σ0 σ' bl := by
  have e4 := f.1 4 (by decide) (by decide)
  have e3 := f.2.2.1 3 (by decide) (by decide) (by decide)
  unfold OU ROu at h ⊢
  rw [e4, e3]; exact h
section MTS
variable {F m o n t : Nat} {h : px_H} {dr : Nat → Bool} {b : Nat → Nat} {σ0 : px_S}
theorem q_take_44 (hm : m ≤ h.length) (hF : 65536 < F) (hw : w2 b n) (hn : o + n ≤ 65536) (hy : ∀ k, 1 ≤ k → k < oM b → yOK b k = true) : ∀ (c k f : Nat) (σ : px_S) (s : px_TS), (∀ k, isB (gA σ 6 k)) → (∀ k, isB (gA σ 3 k)) → cb (gA σ 6) o n = b → 1 ≤ k → c = oM b - k → k < 2 ^ 30 → c < f → RTa σ t o → RDr σ dr → gI σ 13 = nI s.1 → s.1 ≤ 2 → RL σ s.2.1 → okL s.2.1 → s.2.1.length + c ≤ 4096 → RO σ s.2.2.1 → s.2.2.1.length + c ≤ 4096 → OU σ0 σ s.2.2.2 → ∃ σ', f_M_take_44 F f m (nI t) (nI o) (nI k) (mh m h σ) = some ((), mh m h σ') ∧ gI σ' 13 = nI (itr (tk1 dr t b) k c s).1 ∧ RL σ' (itr (tk1 dr t b) k c s).2.1 ∧ okL (itr (tk1 dr t b) k c s).2.1 ∧ RO σ' (itr (tk1 dr t b) k c s).2.2.1 ∧ OU σ0 σ' (itr (tk1 dr t b) k c s).2.2.2 ∧ frW σ σ' := by
  have hM := w2_M hw
  intro c
  induction c with
  | zero =>
    intro k f σ s hB h3 hcb h1 hc hk hf ht hd h13 hs hr hok hl ho hol hou
    obtain ⟨f, rfl⟩ : ∃ x, f = x + 1 := ⟨f - 1, by omega⟩
    have hrk : rk (gA σ 6) o n := w1_rk (by rw [hcb]; exact hw.1) hn
    rw [itr_0]
    refine ⟨σ, ?_, h13, hr, hok, ho, hou, frW_refl σ⟩
    unfold f_M_take_44 f_M_take_138
    rw [e_o hm, bs, q_symbolMany (Mmb hm hB) (by omega) hrk (by rw [hcb]; exact hw.1.2.1.1) (by rw [hcb]; exact w2_z hw), xb_mk, hcb, if_pos (nI_le (by omega) (by omega))]
  | succ c ih =>
    intro k f σ s hB h3 hcb h1 hc hk hf ht hd h13 hs hr hok hl ho hol hou
    obtain ⟨f, rfl⟩ : ∃ x, f = x + 1 := ⟨f - 1, by omega⟩
    have hrk : rk (gA σ 6) o n := w1_rk (by rw [hcb]; exact hw.1) hn
    have hkM : k < oM b := by omega
    have hyk := hy k h1 hkM
    have hwc : w2 (cb (gA σ 6) o n) n := by rw [hcb]; exact hw
    have hbn := q_bind (F := F) (h := mh m h σ) (m := m) (k := k) (Mmb hm hB) (by omega) hrk (by rw [hcb]; exact hw.1.2.1.1) (by rw [hcb]; exact w2_y hw hkM)
    have step : ∀ σ1 s1, frW σ σ1 → (∀ k, isB (gA σ1 3 k)) → gI σ1 13 = nI s1.1 → s1.1 ≤ 2 → RL σ1 s1.2.1 → okL s1.2.1 → s1.2.1.length ≤ s.2.1.length + 1 → RO σ1 s1.2.2.1 → s1.2.2.1.length ≤ s.2.2.1.length + 1 → OU σ0 σ1 s1.2.2.2 → tk1 dr t b k s = s1 → ∃ σ', f_M_take_44 F f m (nI t) (nI o) (nI (k + 1)) (mh m h σ1) = some ((), mh m h σ') ∧ gI σ' 13 = nI (itr (tk1 dr t b) k (c + 1) s).1 ∧ RL σ' (itr (tk1 dr t b) k (c + 1) s).2.1 ∧ okL (itr (tk1 dr t b) k (c + 1) s).2.1 ∧ RO σ' (itr (tk1 dr t b) k (c + 1) s).2.2.1 ∧ OU σ0 σ' (itr (tk1 dr t b) k (c + 1) s).2.2.2 ∧ frW σ σ' := by
      intro σ1 s1 a1 a2 a3 a4 a5 a6 a7 a8 a9 a10 a11
      have g6 : gA σ1 6 = gA σ 6 := a1.2.2.1 6 (by decide) (by decide) (by decide) (by decide)
      have ht1 : RTa σ1 t o := by
        obtain ⟨b1, q, b2, b3, b4⟩ := ht
        exact ⟨b1, q, b2, by rw [a1.2.2.1 17 (by decide) (by decide) (by decide) (by decide)]; exact b3, by rw [a1.2.2.1 9 (by decide) (by decide) (by decide) (by decide)]; exact b4⟩
      have hd1 : RDr σ1 dr := by
        intro i hi
        rw [a1.2.2.1 65 (by decide) (by decide) (by decide) (by decide)]; exact hd i hi
      obtain ⟨σ', j1, j2, j3, j4, j5, j6, j7⟩ := ih (k + 1) f σ1 s1 (by rw [g6]; exact hB) a2 (by rw [g6]; exact hcb) (by omega) (by omega) (by omega) (by omega) ht1 hd1 a3 a4 a5 a6 (by omega) a8 (by omega) a10
      rw [itr_s, a11]
      exact ⟨σ', j1, j2, j3, j4, j5, j6, frW_trans a1 j7⟩
    rw [hcb] at hbn
    have hB15 : yB b k < 16 := by
      have := yB_lt (cb_lt (gA σ 6) o n) k
      rw [hcb] at this
      exact this
    unfold f_M_take_44 f_M_take_132
    rw [e_o hm, bs, q_symbolMany (Mmb hm hB) (by omega) hrk (by rw [hcb]; exact hw.1.2.1.1) (by rw [hcb]; exact w2_z hw), xb_mk, hcb, if_neg (nI_ge (by omega) (by omega)), e_o hm, bs, hbn, xb_mk, nI_add]
    by_cases c1 : yB b k = 0
    · rw [if_pos (by rw [c1]; rfl)]
      exact step σ s (frW_refl σ) h3 h13 hs hr hok (by omega) ho (by omega) hou (by unfold tk1; rw [if_pos c1])
    · rw [if_neg (show ¬ nI (yB b k) = 0 from fun q => c1 ((nI_eq (b := 0) (by omega) (by decide)).mp q)), Mg13 hm, bs, h13]
      obtain ⟨y1, y2, y3⟩ := yOK_n hyk c1
      by_cases c2 : s.1 = 1
      · rw [if_pos (by rw [c2]), e_o hm, bs]
        obtain ⟨σ1, e1, e2, e3⟩ := q_enter (F := F) (o := o) (n := n) (k := k) hm (by omega) hB hwc hn (by rw [hcb]; exact hkM) (by rw [hcb]; exact y2) hr (by omega)
        rw [hcb] at e1 e2
        rw [e1, xb_mk]
        have f1 := frM_J e3
        have hd1 : tk1 dr t b k s = (1, entL (yT b k) s.2.1, s.2.2.1, s.2.2.2) := by unfold tk1; rw [if_neg c1, if_pos c2]
        have hel := entL_len (w := yT b k) (xs := s.2.1)
        have hok1 := okL_ent (w := yT b k) hok
        generalize entL (yT b k) s.2.1 = ys at *
        refine step σ1 (1, ys, s.2.2.1, s.2.2.2) (frW_M f1) (by rw [f1.2.2.1 3 (by decide) (by decide) (by decide)]; exact h3) ?_ (show 1 ≤ 2 by decide) e2 hok1 hel ⟨(e3.1 48 (by decide)).trans ho.1, ho.2.1, fun i d hd => ?_⟩ (Nat.le_succ _) (OU_M hou f1) hd1
        · rw [f1.1 13 (by decide) (by decide), h13, c2]
        · rw [e3.2.2.1 49 (by decide) (by decide) (by decide) (by decide) (by decide) (by decide)]; exact ho.2.2 i d hd
      · rw [if_neg (fun q => c2 ((nI_eq (by omega) (by decide)).mp q)), e_o hm, bs]
        obtain ⟨σ1, e1, e2, e3, e4, e5⟩ := q_come (F := F) (o := o) (n := n) (k := k) (t := t) (dr := dr) hm (by omega) hB hwc hn (by rw [hcb]; exact hkM) (by rw [hcb]; exact hyk) (by rw [hcb]; exact c1) ht hd hr hok (by omega) ho (by omega)
        rw [hcb] at e1 e2 e3 e4
        have hcl := comS_len (dr := dr) (t := t) (b := b) (k := k) (st := (s.2.1, s.2.2.1))
        have hcf := fun q => comS_f (dr := dr) (t := t) (b := b) (k := k) (st := (s.2.1, s.2.2.1)) q
        have b6 : gA σ1 6 = gA σ 6 := e5.2.2.1 6 (by decide) (by decide) (by decide)
        have h31 : ∀ k, isB (gA σ1 3 k) := by rw [e5.2.2.1 3 (by decide) (by decide) (by decide)]; exact h3
        have i13 : gI σ1 13 = nI s.1 := (e5.1 13 (by decide) (by decide)).trans h13
        rw [e1, xb_mk]
        have hd0 : tk1 dr t b k s = if (comS dr t b k (s.2.1, s.2.2.1)).1 = true then (s.1, (comS dr t b k (s.2.1, s.2.2.1)).2.1, (comS dr t b k (s.2.1, s.2.2.1)).2.2, s.2.2.2) else (1, (comS dr t b k (s.2.1, s.2.2.1)).2.1, (comS dr t b k (s.2.1, s.2.2.1)).2.2, some (yT b k)) := by unfold tk1; rw [if_neg c1, if_neg c2]
        generalize comS dr t b k (s.2.1, s.2.2.1) = R at *
        obtain ⟨R1, R2, R3⟩ := R
        dsimp only at *
        cases R1 with
        | true =>
          rw [if_pos rfl] at hd0
          rw [if_neg (show ¬ bI true = 0 by decide)]
          exact step σ1 (s.1, R2, R3, s.2.2.2) (frW_M e5) h31 i13 hs e2 e3 hcl.1 e4 hcl.2 (OU_M hou e5) hd0
        | false =>
          rw [if_neg (by decide)] at hd0
          have hR2 := hcf rfl
          rw [if_pos (show bI false = 0 from rfl), Mp13 hm, bs, e_o hm, bs]
          obtain ⟨σ2, hσ2⟩ : ∃ x, x = sI σ1 13 (nI 1) := ⟨_, rfl⟩
          rw [← hσ2]
          have gAo : ∀ q, gA σ2 q = gA σ1 q := fun q => by rw [hσ2, gA_sI]
          have gBo : ∀ q, gB σ2 q = gB σ1 q := fun q => by rw [hσ2]; rfl
          have gIo : ∀ q, q ≠ 13 → gI σ2 q = gI σ1 q := fun q hq => by rw [hσ2, gI_sI, if_neg hq]
          have c6 : gA σ2 6 = gA σ 6 := (gAo 6).trans b6
          have hRL2 : RL σ2 R2 := ⟨RNm_eq e2.1 (gIo 20 (by decide)) (gAo 21) (gAo 22), fun i x hx => rrec_eq (e2.2 i x hx) (fun q _ => by rw [gAo]) (by rw [gBo])⟩
          obtain ⟨σ3, q, d1, d2, d3, d4, d5, d6, d7, d8, d9⟩ := q_double (F := F) (σ := σ2) (o := o) (n := n) (k := k) (xs := s.2.1) hm (by omega) (by rw [c6]; exact hB) (by rw [c6]; exact hwc) hn (by rw [c6, hcb]; exact hkM) (by rw [c6, hcb]; exact y2) (by rw [c6, hcb, ← hR2]; exact hRL2) (by rw [gAo]; exact h31) (by rw [c6, hcb, ← hR2]; have := hcl.1; omega)
          rw [c6, hcb] at d3 d4 d5
          rw [d1, xb_mk, Mr21 hm, bs, Mr22 hm, bs, Ma22 hm d2, bs, d3, e_o hm, bs, pk_mul, d4, xb_mk]
          refine step σ3 (1, R2, R3, some (yT b k)) ?_ d5.2.2.1 ?_ (show 1 ≤ 2 by decide) ?_ e3 hcl.1 ?_ hcl.2 ⟨fun q => (nomatch q), fun w hw => ?_⟩ hd0
          · refine frW_trans (frW_M e5) ⟨fun q a b _ _ => (d6 q a).trans (gIo q b), fun q => by rw [d7, hσ2]; rfl, fun q _ a _ _ => (d8 q a).trans (gAo q), fun q _ => (d9 q).trans (gBo q)⟩
          · rw [d6 13 (by decide), hσ2, gI_sI, if_pos rfl]
          · exact ⟨RNm_eq hRL2.1 (d6 20 (by decide)) (d8 21 (by decide)) (d8 22 (by decide)), fun i x hx => rrec_eq (hRL2.2 i x hx) (fun q hq => by rw [d8 q (by omega)]) (by rw [d9])⟩
          · refine ⟨(d6 48 (by decide)).trans ((gIo 48 (by decide)).trans e4.1), e4.2.1, fun i d hd => ?_⟩
            rw [d8 49 (by decide), gAo]; exact e4.2.2 i d hd
          · have hw2 : yT b k = w := Option.some.inj hw
            rw [← hw2]; exact d5
end MTS
end
