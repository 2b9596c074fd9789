/-! addressIn of the class's pool -/
section CAI
variable {F : Nat} {c : px_CT} {sk : Nat → Nat × Nat × Nat} {L : Nat} {τ : px_TT} {C : Nat → Nat} {A Z ss p : Nat} {cpf : List Nat}
theorem k_ai_63 (hS : GS sk L) (hR : GR τ) (hb : CB τ C) (h71 : fI τ 7 1 = nI ss) (hss : ss ≤ 65536) (hp : ob sk L 8 p) (h7 : fI τ p 7 = nI A) {a4 : Int32} : ∀ (d f : Nat), A + d ≤ ss → d < f → f_Pool_addressIn_63 F c f 1697 (some p) a4 (nI (A + d)) (cH sk L τ) = f_Pool_addressIn_92 F c 1697 (some p) a4 (nI (frm C A d)) (cH sk L τ) := by
  have o := G1697 hS
  intro d
  induction d with
  | zero =>
    intro f hd hf
    obtain ⟨f, rfl⟩ : ∃ x, f = x + 1 := ⟨f - 1, by omega⟩
    unfold f_Pool_addressIn_63
    rw [bs, C8g7 hp, bs, h7, if_pos (nI_le (by omega) (by omega))]
    rfl
  | succ d ih =>
    intro f hd hf
    obtain ⟨f, rfl⟩ : ∃ x, f = x + 1 := ⟨f - 1, by omega⟩
    have hC := CB_lt hb (A + d)
    unfold f_Pool_addressIn_63
    rw [bs, C8g7 hp, bs, h7, if_neg (nI_ge (by omega) (by omega)), C9r0 o (GR_r (v := 7) hR (by decide)), bs, c_o (G7 hS), bs, pk_sub (by omega), show A + (d + 1) - 1 = A + d by omega, k_at8 hS hR hb h71 hss (by omega), xb_mk, frm_s]
    by_cases c0 : C (A + d) = 0
    · rw [if_pos (show nI (C (A + d)) = 0 by rw [c0]; rfl), if_pos c0, show A + d + 1 = A + (d + 1) by omega]
    · rw [if_neg (show ¬ nI (C (A + d)) = 0 from fun q => c0 ((nI_eq (b := 0) (by omega) (by decide)).mp q)), if_neg c0, nI_back, pk_sub (by omega), show A + (d + 1) - 1 = A + d by omega]
      exact ih f (by omega) (by omega)
theorem k_ai_96 (hS : GS sk L) (hR : GR τ) (hb : CB τ C) (h71 : fI τ 7 1 = nI ss) (hss : ss ≤ 65536) (hA : A + Z ≤ ss) (hp : ob sk L 8 p) (h7 : fI τ p 7 = nI A) (h5 : fI τ p 5 = nI Z) (hz : C (A + (Z - 1)) = 0) {a4 a5 : Int32} : ∀ (d j f : Nat), j + d = Z → 0 < d → d < f → f_Pool_addressIn_96 F c f 1697 (some p) a4 a5 (nI (A + j)) (cH sk L τ) = f_Pool_addressIn_130 F c 1697 a4 a5 (nI (A + nxt C A j d)) (cH sk L τ) := by
  have o := G1697 hS
  intro d
  induction d with
  | zero => intro j f _ h; omega
  | succ d ih =>
    intro j f hj _ hf
    obtain ⟨f, rfl⟩ : ∃ x, f = x + 1 := ⟨f - 1, by omega⟩
    have hC := CB_lt hb (A + j)
    unfold f_Pool_addressIn_96
    rw [bs, C8g7 hp, bs, h7, C8g5 hp, bs, h5, nI_add, pk_sub (by omega), nxt_s]
    by_cases cl : d = 0
    · have ej : j = Z - 1 := by omega
      rw [if_pos (nI_le (by omega) (by omega)), if_pos (by rw [ej]; exact hz)]
    · rw [if_neg (nI_ge (by omega) (by omega)), C9r0 o (GR_r (v := 7) hR (by decide)), bs, c_o (G7 hS), bs, k_at8 hS hR hb h71 hss (by omega), xb_mk]
      by_cases c0 : C (A + j) = 0
      · rw [if_pos (show nI (C (A + j)) = 0 by rw [c0]; rfl), if_pos c0]
      · rw [if_neg (show ¬ nI (C (A + j)) = 0 from fun q => c0 ((nI_eq (b := 0) (by omega) (by decide)).mp q)), if_neg c0, nI_add, show A + j + 1 = A + (j + 1) by omega]
        exact ih (j + 1) f (by omega) (by omega) (by omega)
/-- the pool is looked through -/
theorem k_ai_148 {f e at0 pa : Nat} (hS : GS sk L) (hR : GR τ) (hF : 65536 < F) (hb : CB τ C) (hpl : CPl τ C cpf) (h : isSt C f e) (hat : f ≤ at0 ∧ at0 ≤ e) (hpa : pa < 2 ^ 40) (h5 : fJ τ 1697 5 = lN pa) : ∀ (d i n off : Nat), i + d = cpf.length → d < n → off + psz C (cpf.drop i) ≤ 2 ^ 32 → f_Pool_addressIn_148 F c n 1697 (nI at0) (nI f) (nI e) (nI (e + 1 - f)) (lN (pa + off)) (nI i) (cH sk L τ) = some (match peO C off (cpf.drop i) (st C f) with
    | some y => lN (pa + y) - lN (e + 1 - at0)
    | none => lN (pa + psz C cpf), cH sk L τ) := by
  have o := G1697 hS
  have hl := stL_len hpl.2.2.1
  have hpz := psz_le cpf hpl.2.2.1.2
  have he := h.1
  intro d
  induction d with
  | zero =>
    intro i n off hi hd hof
    obtain ⟨n, rfl⟩ : ∃ x, n = x + 1 := ⟨n - 1, by omega⟩
    unfold f_Pool_addressIn_148 f_Pool_addressIn_213
    rw [C9g3 o, bs, hpl.1, if_pos (nI_le (by omega) (by omega)), C9g5 o, bs, h5, C9g4 o, bs, hpl.2.1, nI_l (by omega), lN_add, List.drop_of_length_le (by omega)]
    rfl
  | succ d ih =>
    intro i n off hi hd hof
    obtain ⟨n, rfl⟩ : ∃ x, n = x + 1 := ⟨n - 1, by omega⟩
    have hil : i < cpf.length := by omega
    have hg := List.getElem?_eq_getElem hil
    have hdr : cpf.drop i = cpf[i] :: cpf.drop (i + 1) := List.drop_eq_getElem_cons hil
    generalize cpf[i] = g at hg hdr
    obtain ⟨e', g1, g2, g3, g4⟩ := CPl_at hpl hg
    have gl := isSt_len g1
    have gle := g1.2.1
    have elen : e' + 1 - g = (st C g).length + 1 := by omega
    have hpe : peO C off (g :: cpf.drop (i + 1)) (st C f) = if sufB (st C f) (st C g) = true then some (off + ((st C g).length + 1)) else peO C (off + ((st C g).length + 1)) (cpf.drop (i + 1)) (st C f) := rfl
    have hps : psz C (g :: cpf.drop (i + 1)) = (st C g).length + 1 + psz C (cpf.drop (i + 1)) := rfl
    rw [hdr, hps] at hof
    rw [hdr, hpe]
    have hie := k_isEnd (F := F) (c := c) hS hR hF hb h g1
    unfold f_Pool_addressIn_148 f_Pool_addressIn_195
    rw [C9g3 o, bs, hpl.1, if_neg (nI_ge hil (by omega)), C9r2 o (GR_r (v := 1699) hR (by decide)), bs, c_aI (G1699 hS) (by decide) (by decide) (by omega), bs, C9r1 o (GR_r (v := 1698) hR (by decide)), bs, c_aI (G1698 hS) (by decide) (by decide) (by omega), bs, bs, c_aI (G1699 hS) (by decide) (by decide) (by omega), bs, c_o o, bs, g3, g4, hie, xb_mk, nI_l (by omega), lN_add, elen]
    cases hs : sufB (st C f) (st C g) with
    | true =>
      rw [if_neg (show ¬ bI true = 0 by decide), if_pos rfl, nI_add, pk_sub (by omega), nI_l (by omega), Nat.add_assoc]
    | false =>
      rw [if_pos (show bI false = 0 from rfl), if_neg (by decide), nI_add, Nat.add_assoc]
      exact ih (i + 1) n (off + ((st C g).length + 1)) (by omega) (by omega) (by omega)
end CAI
