/-! the class's addresses of strings' sections and of names -/
def J18 (tb : Nat → Nat → Nat) (a k : Nat) : Prop := 152 ≤ a ∧ a < 1688 ∧ k = 11 ∧ sS tb (a - 152) = true
def J60 (a k : Nat) : Prop := 1815 ≤ a ∧ k = 14
section CAL
variable {F : Nat} {c : px_CT} {sk : Nat → Nat × Nat × Nat} {L : Nat} {own : Nat → Nat × Nat} {fs : px_FS} {s : px_TK} {xs : px_NL} {ST rn : Nat → Bool} {ll : List Nat} {C B : Nat → Nat} {cpf : List Nat} {tO : Nat → Nat} {pp : Nat} {ad : Nat → Nat}
theorem k_ly_18 (hF : 65536 < F) : ∀ (d P f : Nat) (τ : px_TT), P + d = ll.length → d < f → LAc sk L own τ fs s xs ST rn ll C B cpf tO pp ad → COr τ ll → (∀ x, x ∈ ll.take P → sS (tB fs s.2.2.1) x = true → fJ τ (152 + x) 11 = lN (pp + baN B (pf0 B tO (tB fs s.2.2.1) ll) (pS tO (tB fs s.2.2.1) x) (zS (tB fs s.2.2.1) x) 0)) → ∃ τ', f_Layout_lay_18 F c f 1700 (nI P) (cH sk L τ) = f_Layout_lay_58 F c 1700 (cH sk L τ') ∧ (∀ x, x ∈ ll → sS (tB fs s.2.2.1) x = true → fJ τ' (152 + x) 11 = lN (pp + baN B (pf0 B tO (tB fs s.2.2.1) ll) (pS tO (tB fs s.2.2.1) x) (zS (tB fs s.2.2.1) x) 0)) ∧ frJE (J18 (tB fs s.2.2.1)) E0 τ τ' := by
  intro d
  induction d with
  | zero =>
    intro P f τ hP hf h ho hA
    obtain ⟨f, rfl⟩ : ∃ x, f = x + 1 := ⟨f - 1, by omega⟩
    have hl1 := h.2.1.2.1.1
    refine ⟨τ, ?_, fun x hx hs => hA x (by rw [List.take_of_length_le (by omega)]; exact hx) hs, frJE_refl⟩
    unfold f_Layout_lay_18
    rw [C2g11 (G1700 h.1.1), bs, ho.1, if_pos (nI_le (by omega) (by omega))]
  | succ d ih =>
    intro P f τ hP hf h ho hA
    obtain ⟨f, rfl⟩ : ∃ x, f = x + 1 := ⟨f - 1, by omega⟩
    have hl1 := h.2.1.2.1.1
    have hPl : P < ll.length := by omega
    obtain ⟨x, hx⟩ : ∃ x, ll[P]? = some x := ⟨_, List.getElem?_eq_getElem hPl⟩
    have hxm := List.mem_of_getElem? hx
    have hx2 := h.2.1.2.1.2 x hxm
    have hT := BK_T (s := s) h.1.2.2.2.2.1.1
    have hp := (TKe_st h.1 hx2.1).2
    have p10 := (TKe_pt h.1 h.2.1.1 hx2.1 hx2.2).2.2.2.2.1
    have kp := k_partAt (F := F) (c := c) h.1.1 h.1.2.1 ho hl1 hx
    have o := G1700 h.1.1
    have htk : ∀ y, y ∈ ll.take (P + 1) → y ∈ ll.take P ∨ y = x := fun y hy => by
      rw [List.take_succ, hx] at hy
      rcases List.mem_append.mp hy with q | q
      · exact Or.inl q
      · exact Or.inr (List.mem_singleton.mp q)
    unfold f_Layout_lay_18 f_Layout_lay_52
    rw [C2g11 o, bs, ho.1, if_neg (nI_ge hPl (by omega)), c_o o, bs, kp, xb_mk, bs, C8g10 hp, bs, p10, nI_add]
    by_cases c1 : sS (tB fs s.2.2.1) x = true
    · have ka := k_addressIn (F := F) (c := c) (V := 0) hF h hx2.1 (by decide)
      have eA : adV ST B (pf0 B tO (tB fs s.2.2.1) ll) tO (tB fs s.2.2.1) pp ad x 0 = lN (pp + baN B (pf0 B tO (tB fs s.2.2.1) ll) (pS tO (tB fs s.2.2.1) x) (zS (tB fs s.2.2.1) x) 0) := by unfold adV; rw [if_pos hx2.2, if_pos c1]
      rw [eA] at ka
      obtain ⟨τ1, hτ1⟩ : ∃ y, y = tJ τ (152 + x) 11 (lN (pp + baN B (pf0 B tO (tB fs s.2.2.1) ll) (pS tO (tB fs s.2.2.1) x) (zS (tB fs s.2.2.1) x) 0)) := ⟨_, rfl⟩
      have f1 : frJE (J18 (tB fs s.2.2.1)) E0 τ τ1 := by rw [hτ1]; exact frJE_J ⟨by omega, by omega, rfl, by rw [show 152 + x - 152 = x by omega]; exact c1⟩
      obtain ⟨τ2, g1, g2, g3⟩ := ih (P + 1) f τ1 (by omega) (by omega) (LAc_J h f1 (fun a k w => Or.inr (Or.inl w))) (COr_fx ho (f1.1 1700 11) (f1.2.2.2.2.2 1701)) (fun y hy hs => by
        by_cases cy : y = x
        · rw [cy, hτ1, tJ_at]
        · have hy2 := (htk y hy).resolve_right cy
          rw [hτ1, tJ_ne (Or.inl (by omega))]
          exact hA y hy2 hs)
      refine ⟨τ2, ?_, g2, frJE_trans f1 g3⟩
      rw [c1, if_neg (show ¬ bI true = 0 by decide), C2r1 o (GR_r (v := 1697) h.1.2.1 (by decide)), bs, c_o (G1697 h.1.1), bs, ka, xb_mk, C8p11 hp, bs, ← hτ1, g1]
    · have c1' : sS (tB fs s.2.2.1) x = false := by cases hh : sS (tB fs s.2.2.1) x with | false => rfl | true => exact absurd hh c1
      obtain ⟨τ2, g1, g2, g3⟩ := ih (P + 1) f τ (by omega) (by omega) h ho (fun y hy hs => by
        rcases htk y hy with q | q
        · exact hA y q hs
        · rw [q] at hs; exact absurd hs c1)
      refine ⟨τ2, ?_, g2, g3⟩
      rw [c1', if_pos (show bI false = 0 from rfl), g1]
/-- how the address of a definition goes by its section -/
theorem ownV_c {tb : Nat → Nat → Nat} {dr : Nat → Bool} {on : Bool} {R : Nat → Bool} {pf : List Nat} {t k : Nat} (hy : yOK (tb t) k = true) (hS : oS (tb t) ≤ 24) (hc : yW (tb t) k ≠ 65522) (hST : ∀ i, i < 24 → ST (24 * t + i) = (kpB (tb t) i && (!dr (24 * t + i) && (!on || R (24 * t + i))))) : ownV B pf tO tb dr (sta tb dr on R) pp ad t k = if yW (tb t) k = 0 then lN 0 else if yW (tb t) k < 24 ∧ (kpB (tb t) (yW (tb t) k) = true ∨ dr (24 * t + yW (tb t) k) = true) then adV ST B pf tO tb pp ad (24 * t + yW (tb t) k) (yV (tb t) k) else lN (yV (tb t) k) := by
  have hw := (of_decide_eq_true hy).2.1
  have eW : wNo dr t (tb t) k = if 0 < yW (tb t) k ∧ yW (tb t) k < 24 ∧ dr (24 * t + yW (tb t) k) = true then 0 else yW (tb t) k := rfl
  unfold ownV
  generalize yW (tb t) k = w at *
  generalize wNo dr t (tb t) k = u at *
  generalize yV (tb t) k = V at *
  by_cases c0 : w = 0
  · have eu : u = 0 := by rw [eW, if_neg (by omega)]; exact c0
    rw [if_pos eu, if_pos c0]
  · rw [if_neg c0]
    by_cases c1 : w < 24
    · have e1 : (24 * t + w) / 24 = t := by omega
      have e2 : (24 * t + w) % 24 = w := by omega
      have hs := hST w c1
      by_cases c2 : dr (24 * t + w) = true
      · have eu : u = 0 := by rw [eW, if_pos ⟨by omega, c1, c2⟩]
        rw [if_pos eu, if_pos ⟨c1, Or.inr c2⟩]
        rw [c2] at hs
        have hs : ST (24 * t + w) = false := by rw [hs]; cases kpB (tb t) w <;> rfl
        unfold adV
        rw [if_neg (by rw [hs]; decide)]
      · have c2' : dr (24 * t + w) = false := by cases hh : dr (24 * t + w) with | false => rfl | true => exact absurd hh c2
        have eu : u = w := by rw [eW, if_neg (fun q => c2 q.2.2)]
        rw [eu, if_neg c0]
        rw [c2'] at hs
        have hwS : w < oS (tb t) := by omega
        have ek : kpB (tb t) w = oK (tb t) w := by unfold kpB; rw [decide_eq_true hwS, Bool.true_and]
        rw [ek] at hs ⊢
        by_cases c3 : oK (tb t) w = true
        · rw [if_neg (show ¬ (w = 65521 ∨ oK (tb t) w = false) from fun q => by
            rcases q with q | q
            · omega
            · rw [c3] at q; exact absurd q (by decide))]
          have eR : (if w < 24 ∧ (oK (tb t) w = true ∨ dr (24 * t + w) = true) then adV ST B pf tO tb pp ad (24 * t + w) V else lN V) = adV ST B pf tO tb pp ad (24 * t + w) V := if_pos ⟨c1, Or.inl c3⟩
          rw [eR]
          have hsy : sta tb dr on R t w = ST (24 * t + w) := by
            unfold sta
            rw [hs, c2']
          rw [hsy]
          unfold adV
          by_cases c4 : ST (24 * t + w) = true
          · rw [if_neg (by rw [c4]; decide), if_pos c4]
            have es : sS tb (24 * t + w) = oStr (tb t) w := by unfold sS; rw [e1, e2]
            have ez : zS tb (24 * t + w) = oZ (tb t) w := by unfold zS; rw [e1, e2]
            have ep : pS tO tb (24 * t + w) = tO t + oP (tb t) w := by unfold pS; rw [e1, e2]
            rw [es, ez, ep]
          · have c4' : ST (24 * t + w) = false := by cases hh : ST (24 * t + w) with | false => rfl | true => exact absurd hh c4
            rw [if_pos c4', if_neg c4]
        · have c3' : oK (tb t) w = false := by cases hh : oK (tb t) w with | false => rfl | true => exact absurd hh c3
          rw [if_pos (Or.inr c3'), if_neg (fun q => by
            rcases q.2 with q | q
            · exact c3 q
            · exact c2 q)]
    · have eu : u = w := by rw [eW, if_neg (fun q => c1 q.2.1)]
      rw [eu, if_neg c0, if_pos (Or.inl (by omega)), if_neg (fun q => c1 q.1)]
theorem k_nat148 {τ : px_TT} {i : Nat} (h : TKe sk L own τ fs s xs ST rn) (hi : i < xs.length) : f_Names_at F c 148 (nI i) (cH sk L τ) = some (some (pN τ 149 i), cH sk L τ) := by
  obtain ⟨s1, s2, s3, s4, s5, s6, s7⟩ := h.2.2.2.1.2.1.1
  obtain ⟨z1, z2, z3, z4⟩ := s7 i _ (List.getElem?_eq_getElem (show i < (xs.map Prod.fst).length by rw [List.length_map]; exact hi))
  rw [List.length_map] at s4 s6
  unfold f_Names_at
  rw [if_neg (show ¬ nI i < 0 from nI_nlt (b := 0) (Nat.zero_le _) (by omega)), C6g2 s1, bs, s6, if_neg (nI_ge hi (by omega)), C6r0 s1 s2, bs, c_l s3 (by decide), bs, if_neg (nI_ge (by omega) (by omega)), bs, c_aN s3 (by decide) (by omega) (by omega), bs]
  unfold f_Names_at_31 f_Names_at_44
  rw [z2]
theorem k_ownAddress {τ : px_TT} {te bg2 fb2 bss mb2 k : Nat} (hS : GS sk L) (hR : GR τ) (h1 : 1 ≤ k) (hk : k ≤ 4) (h14 : fJ τ 1700 14 = lN te) (h15 : fJ τ 1700 15 = lN bss) (e5 : eJ τ 1705 2 = lN bg2) (e6 : eJ τ 1706 2 = lN fb2) (e7 : eJ τ 1707 2 = lN mb2) : f_Layout_ownAddress F c 1700 (lN (k - 1)).toInt32 (cH sk L τ) = some (lN (ownK te bg2 fb2 bss mb2 k), cH sk L τ) := by
  have o := G1700 hS
  rw [lN_i]
  unfold f_Layout_ownAddress ownK
  by_cases c1 : k = 1
  · rw [c1, if_pos rfl, if_pos rfl, C2g14 o, bs, h14]
  · rw [if_neg (fun q => by have := (nI_eq (by omega) (by decide)).mp q; omega), if_neg c1]
    by_cases c2 : k = 2
    · rw [c2, if_pos rfl, if_pos rfl, C2r6 o (GR_r (v := 1705) hR (by decide)), bs, c_aJ (G1705 hS) (by decide) (by decide), bs, C2r7 o (GR_r (v := 1706) hR (by decide)), bs, c_aJ (G1706 hS) (by decide) (by decide), bs, e5, e6, lN_add]
    · rw [if_neg (fun q => by have := (nI_eq (by omega) (by decide)).mp q; omega), if_neg c2]
      by_cases c3 : k = 3
      · rw [c3, if_pos rfl, if_pos rfl, C2g15 o, bs, h15]
      · rw [if_neg (fun q => by have := (nI_eq (by omega) (by decide)).mp q; omega), if_neg c3, C2r6 o (GR_r (v := 1705) hR (by decide)), bs, c_aJ (G1705 hS) (by decide) (by decide), bs, C2r8 o (GR_r (v := 1707) hR (by decide)), bs, c_aJ (G1707 hS) (by decide) (by decide), bs, e5, e7, lN_add]
end CAL
