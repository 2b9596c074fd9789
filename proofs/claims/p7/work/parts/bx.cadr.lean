/-! addressIn of the class's pool, whole -/
section CAJ
variable {F : Nat} {c : px_CT} {sk : Nat → Nat × Nat × Nat} {L : Nat} {τ : px_TT} {C : Nat → Nat} {A Z ss p : Nat} {cpf : List Nat}
theorem nxt_no {B : Nat → Nat} {q : Nat} : ∀ (d j : Nat), j ≤ nxt B q j d ∧ nxt B q j d ≤ j + d ∧ ∀ i, j ≤ i → i < nxt B q j d → B (q + i) ≠ 0
  | 0, j => ⟨Nat.le_refl _, Nat.le_refl _, fun i h1 h2 => by have h2 : i < j := h2; omega⟩
  | d + 1, j => by
    rw [nxt_s]
    by_cases c0 : B (q + j) = 0
    · rw [if_pos c0]; exact ⟨Nat.le_refl _, by omega, fun i h1 h2 => by omega⟩
    · rw [if_neg c0]
      obtain ⟨a1, a2, a3⟩ := nxt_no (B := B) (q := q) d (j + 1)
      refine ⟨by omega, by omega, fun i h1 h2 => ?_⟩
      by_cases e : i = j
      · rw [e]; exact c0
      · exact a3 i (by omega) h2
theorem frm_same {B : Nat → Nat} {q V : Nat} : ∀ (d : Nat), (∀ i, V ≤ i → i < V + d → B (q + i) ≠ 0) → frm B q (V + d) = frm B q V
  | 0, _ => rfl
  | d + 1, h => by
    rw [show V + (d + 1) = V + d + 1 by omega, frm_s, if_neg (h (V + d) (by omega) (by omega))]
    exact frm_same d (fun i h1 h2 => h i h1 (by omega))
theorem peO_ge {B : Nat → Nat} {u : List Nat} {y : Nat} : ∀ {l : List Nat} {off : Nat}, peO B off l u = some y → off + (u.length + 1) ≤ y
  | [], off, h => by cases h
  | f :: l, off, h => by
    have h : (if sufB u (st B f) = true then some (off + ((st B f).length + 1)) else peO B (off + ((st B f).length + 1)) l u) = some y := h
    by_cases c0 : sufB u (st B f) = true
    · rw [if_pos c0] at h
      have h : off + ((st B f).length + 1) = y := Option.some.inj h
      have := sufB_len c0
      omega
    · rw [if_neg c0] at h
      have := peO_ge h
      omega
theorem k_addressIn_s {V pa y : Nat} (hS : GS sk L) (hR : GR τ) (hF : 65536 < F) (hb : CB τ C) (h71 : fI τ 7 1 = nI ss) (hss : ss ≤ 65536) (hA : A + Z ≤ ss) (hp : ob sk L 8 p) (h7 : fI τ p 7 = nI A) (h5 : fI τ p 5 = nI Z) (h9 : fI τ p 9 = bI true) (h10 : fI τ p 10 = bI true) (hz : C (A + (Z - 1)) = 0) (hpl : CPl τ C cpf) (hpa : pa < 2 ^ 40) (hj5 : fJ τ 1697 5 = lN pa) (hV : V < Z) (hy : peO C 0 cpf (st C (frm C A (nxt C A V (Z - V)))) = some y) : f_Pool_addressIn F c 1697 (some p) (lN V) (cH sk L τ) = some (lN (pa + (y - (nxt C A V (Z - V) + 1 - V))), cH sk L τ) := by
  obtain ⟨m1, m2, m3⟩ := nxt_0 (B := C) (p := A) hz (Z - V) V (by omega) (by omega)
  obtain ⟨n1, n2, n3⟩ := nxt_no (B := C) (q := A) (Z - V) V
  obtain ⟨m, hm⟩ : ∃ m, m = nxt C A V (Z - V) := ⟨_, rfl⟩
  have hfs := frm_same (B := C) (q := A) (V := V) (m - V) (fun i h1 h2 => n3 i h1 (by omega))
  rw [show V + (m - V) = m by omega] at hfs
  rw [← hm] at m1 m2 m3 n1 n2 n3 hy ⊢
  have hst := frm_st (C := C) (A := A) (j := m) (by omega) m1
  obtain ⟨q1, q2, q3⟩ := frm_le (B := C) (p := A) V
  have hlen := isSt_len hst
  have hye := peO_le (B := C) (l := cpf) (off := 0) hy
  have hl := stL_len hpl.2.2.1
  have hpz := psz_le cpf hpl.2.2.1.2
  have hyg := peO_ge hy
  rw [hfs] at hst hlen hy hyg
  have k148 := k_ai_148 (F := F) (c := c) (at0 := A + V) hS hR hF hb hpl hst (by omega) hpa hj5 cpf.length 0 F 0 (Nat.zero_add _) (by omega) (by rw [List.drop_zero]; omega)
  rw [List.drop_zero, hy, Nat.add_zero pa] at k148
  unfold f_Pool_addressIn
  rw [bs, C8g9 hp, bs, h9, if_neg (show ¬ bI true = 0 by decide), C8g10 hp, bs, h10, if_neg (show ¬ bI true = 0 by decide), if_neg (show ¬ lN V < lN 0 from fun w => by have := (lt31 (by omega) (by decide)).mp w; omega), C8g5 hp, bs, h5, nI_l (by omega), if_pos ((lt31 (by omega) (by omega)).mpr hV), C8g7 hp, bs, h7, lN_i, nI_add, k_ai_63 hS hR hb h71 hss hp h7 V F (by omega) (by omega)]
  unfold f_Pool_addressIn_92
  rw [k_ai_96 hS hR hb h71 hss hA hp h7 h5 hz (Z - V) V F (by omega) (by omega) (by omega), ← hm]
  unfold f_Pool_addressIn_130
  rw [C9g5 (G1697 hS), bs, hj5, nI_add, pk_sub (by omega), show A + m + 1 - frm C A V = A + m + 1 - frm C A V from rfl, k148]
  congr 2
  show lN (pa + y) - lN (A + m + 1 - (A + V)) = _
  rw [lN_sub (by omega), show pa + y - (A + m + 1 - (A + V)) = pa + (y - (m + 1 - V)) by omega]
end CAJ
