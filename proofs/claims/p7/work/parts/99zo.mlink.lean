/-! link of the reference: names left, what is reached -/
/-- the answer when names are looked at -/
def anN (fs : px_FS) (ws : List (List Nat)) (s : px_TK) (xs : px_NL) : Nat := if s.1.1 = 0 then (if lkA fs ws s xs = true then 2 else 0) else s.1.1
theorem RW_FR {σ σ' : px_S} {I J A B : List Nat} {ws : List (List Nat)} (h : RW σ ws) (f : FR I J A B σ σ') (h1 : 32 ∉ I) (h2 : 34 ∉ A ∧ 36 ∉ A) : RW σ' ws := ⟨(f.1 32 h1).trans h.1, RN_eq h.2 (f.2.2.1 34 h2.1) (f.2.2.1 36 h2.2)⟩
theorem RG_FR {σ σ' : px_S} {I J A B : List Nat} {gs : List (List Nat × Int64)} (h : RG σ gs) (f : FR I J A B σ σ') (h1 : 31 ∉ I) (h2 : 33 ∉ A ∧ 35 ∉ A) (h3 : 37 ∉ B) : RG σ' gs := by
  refine ⟨(f.1 31 h1).trans h.1, RN_eq h.2.1 (f.2.2.1 33 h2.1) (f.2.2.1 35 h2.2), fun i x hx => ?_⟩
  rw [f.2.2.2 37 h3]; exact h.2.2 i x hx
section MLU
variable {F m : Nat} {h : px_H} {a : Int32} {fs : px_FS} {gs : List (List Nat × Int64)} {ws : List (List Nat)} {s : px_TK} {xs : px_NL}
theorem q_ln_111 {σ : px_S} (hm : m ≤ h.length) (hF : 65536 < F) (h13 : gI σ 13 = nI s.1.1) (hL : LM fs s xs σ) (hb : WK fs s) (hx : s.1.1 = 0 → xs = ownL s.1.2.1) (hw : RW σ ws) (hwn : ∀ w, w ∈ ws → w ∈ s.1.2.1.map Prod.fst) (hc : RC σ) (h3 : ∀ k, isB (gA σ 3 k)) (h4 : ∃ n, n ≤ 65536 ∧ gI σ 4 = nI n) : ∃ σ', f_M_link_111 F m a (mh m h σ) = f_M_link_122 F m a (mh m h σ') ∧ gI σ' 13 = nI (anN fs ws s xs) ∧ LM fs s xs σ' ∧ (∀ k, isB (gA σ' 3 k)) ∧ (∃ n, n ≤ 65536 ∧ gI σ' 4 = nI n) ∧ FR [4, 13] [] [3] [] σ σ' := by
  have hs2 := hb.1.1
  unfold f_M_link_111 anN
  rw [Mg13 hm, bs, h13]
  by_cases c : s.1.1 = 0
  · rw [if_pos (by rw [c]; rfl), if_pos c]
    obtain ⟨l1, l2, l3, l4, l5, l6, l7, l8, l9⟩ := hL
    have ex := hx c
    have hWP : WP s.2.2.1.length (tB fs s.2.2.1) s.2.1.1 xs := by rw [ex]; exact WP_own (WP_of hb)
    obtain ⟨σ', a1, a2, a3⟩ := q_look2 (F := F) (h := h) (s := s) (σ0 := σ) (ws := ws) (xs := xs) (fs := fs) hm hF l2 h3 hb.1 l5 l1 l7 l3 hWP.2.1 hc (by rw [h13, c]) (by rw [ex]; exact nmI_of hb) hw (fun w hq => by
      rw [ex, ownL_fst]; exact idx_iff.mpr (hwn w hq))
    rw [e_o hm, bs, a1, xb_mk]
    refine ⟨σ', rfl, ?_⟩
    cases ek : lkA fs ws s xs with
    | false =>
      rw [a2 ek, if_neg (by decide)]
      exact ⟨by rw [h13, c], ⟨l1, l2, l3, l4, l5, l6, l7, l8, l9⟩, h3, h4, FR_refl σ⟩
    | true =>
      obtain ⟨b1, b2, b3, n, b4, b5⟩ := a3 ek
      rw [if_pos rfl]
      exact ⟨b1, LM_FR ⟨l1, l2, l3, l4, l5, l6, l7, l8, l9⟩ b2 (by decide) (by decide) (by decide), b3, ⟨n, by omega, b5⟩, b2⟩
  · rw [if_neg (show ¬ nI s.1.1 = 0 from fun q => c ((nI_eq (b := 0) (by omega) (by decide)).mp q)), if_neg c]
    exact ⟨σ, rfl, h13, hL, h3, h4, FR_refl σ⟩
/-- what is reached, if that is asked -/
def RRo (T : Nat) (tb : Nat → Nat → Nat) (dr : Nat → Bool) (xs : px_NL) (on : Bool) (R rn : Nat → Bool) : Prop := on = true → (∀ x, R x = true ↔ Rch T tb dr xs (stR tb dr xs) x) ∧ ∀ i, rn i = true ↔ RcN T tb dr xs (stR tb dr xs) (stC xs) i
theorem q_ln_122 {σ : px_S} {rc on : Bool} (hm : m ≤ h.length) (hF : 65536 < F) (h13 : gI σ 13 = nI (anN fs ws s xs)) (hL : LM fs s xs σ) (hb : WK fs s) (hW : WP s.2.2.1.length (tB fs s.2.2.1) s.2.1.1 xs) (hc : RC σ) (h98 : ∃ ch, gI σ 98 = bI ch) (h68 : gI σ 68 = nI 0) (hon : on = (decide (anN fs ws s xs = 0) && rc)) : ∃ (σ' : px_S) (R rn : Nat → Bool), f_M_link_122 F m (bI rc) (mh m h σ) = f_M_link_137 F m (mh m h σ') ∧ RSt σ' on R ∧ RRn σ' xs on rn ∧ RRo s.2.2.1.length (tB fs s.2.2.1) s.2.1.1 xs on R rn ∧ (∃ ch, gI σ' 98 = bI ch) ∧ FR [68, 98] [] [66, 67] [] σ σ' := by
  have hs2 := hb.1.1
  have ha : anN fs ws s xs ≤ 2 := by unfold anN; repeat (first | omega | split)
  unfold f_M_link_122
  rw [Mg13 hm, bs, h13]
  have skip : on = false → ∃ (σ' : px_S) (R rn : Nat → Bool), f_M_link_137 F m (mh m h σ) = f_M_link_137 F m (mh m h σ') ∧ RSt σ' on R ∧ RRn σ' xs on rn ∧ RRo s.2.2.1.length (tB fs s.2.2.1) s.2.1.1 xs on R rn ∧ (∃ ch, gI σ' 98 = bI ch) ∧ FR [68, 98] [] [66, 67] [] σ σ' := fun e => by
    rw [e]
    exact ⟨σ, fun _ => false, fun _ => false, rfl, ⟨h68, fun q => absurd q (by decide)⟩, ⟨h68, fun q => absurd q (by decide)⟩, (fun q => absurd q (by decide)), h98, FR_refl σ⟩
  by_cases c : anN fs ws s xs = 0
  · rw [if_pos (by rw [c]; rfl)]
    cases erc : rc with
    | false =>
      rw [if_pos (show bI false = 0 from rfl)]
      exact skip (by rw [hon, erc, Bool.and_false])
    | true =>
      rw [if_neg (show ¬ bI true = 0 by decide)]
      obtain ⟨l1, l2, l3, l4, l5, l6, l7, l8, l9⟩ := hL
      have hst : (dfI wST xs).isSome = true := by
        unfold anN at c
        by_cases c1 : s.1.1 = 0
        · rw [if_pos c1] at c
          by_cases c2 : lkA fs ws s xs = true
          · rw [if_pos c2] at c; cases c
          · have c2 := Bool.eq_false_iff.mpr c2
            unfold lkA at c2
            rw [Bool.or_eq_false_iff, Bool.or_eq_false_iff] at c2
            have := c2.2.2
            cases e : dfI wST xs with
            | none => rw [e] at this; cases this
            | some i => rfl
        · rw [if_neg c1] at c; exact absurd c c1
      obtain ⟨σ', a1, ⟨R, rn, r1, r2, r3, r4, r5⟩, a3, a4⟩ := q_reach (F := F) (h := h) (xs := xs) hm hF hW ⟨OB_of l2 hb.1 l7, l5, l3⟩ l1 hc hst h98
      have eon : on = true := by rw [hon, erc, c]; rfl
      rw [e_o hm, bs, a1, xb_mk, eon]
      exact ⟨σ', R, rn, rfl, ⟨a3, fun _ => r1⟩, ⟨a3, fun _ => r2⟩, fun _ => ⟨r3, r4⟩, r5, a4⟩
  · rw [if_neg (show ¬ nI (anN fs ws s xs) = 0 from fun q => c ((nI_eq (b := 0) (by omega) (by decide)).mp q))]
    exact skip (by rw [hon, decide_eq_false c, Bool.false_and])
end MLU
