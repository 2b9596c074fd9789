section
/-! the class's addressIn is the document's -/
section CAP
variable {C B : Nat → Nat} {A p Z : Nat}
theorem nxt_rel (hb : ∀ i, i < Z → C (A + i) = B (p + i)) : ∀ (d j : Nat), j + d ≤ Z → nxt C A j d = nxt B p j d := by
  intro d
  induction d with
  | zero => intro j _; rfl
  | succ d ih =>
    intro j hj
    rw [nxt_s, nxt_s, hb j (by omega), ih (j + 1) (by omega)]
theorem st_rel {V : Nat} (hA : A + Z ≤ 65536) (hp : p + Z ≤ 65536) (hb : ∀ i, i < Z → C (A + i) = B (p + i)) (hz : B (p + (Z - 1)) = 0) (hV : V < Z) : st C (frm C A (nxt B p V (Z - V))) = st B (frm B p (nxt B p V (Z - V))) := by
  obtain ⟨m1, m2, m3⟩ := nxt_0 (B := B) (p := p) hz (Z - V) V (by omega) (by omega)
  generalize nxt B p V (Z - V) = m at *
  have s1 := frm_st (C := C) (A := A) (j := m) (by omega) (by rw [hb m m3]; exact m1)
  have s2 := frm_st (C := B) (A := p) (j := m) (by omega) m1
  obtain ⟨k, k1, k2, k3⟩ := frm_rel (C := C) (B := B) (A := A) (p := p) m (fun i hi => hb i (by omega))
  rw [k2] at s1 ⊢
  rw [k3] at s2 ⊢
  refine isSt_text s1 s2 (by omega) (fun i hi => ?_)
  rw [Nat.add_assoc, Nat.add_assoc]
  exact hb (k + i) (by omega)
end CAP
/-- the strings' sections as the class has them and as the reference has them -/
def CBR (C B : Nat → Nat) (cA tO : Nat → Nat) (tb : Nat → Nat → Nat) (ll : List Nat) : Prop := ∀ x, x ∈ ll → sS tb x = true → cA x + zS tb x ≤ 65536 ∧ pS tO tb x + zS tb x ≤ 65536 ∧ (∀ i, i < zS tb x → C (cA x + i) = B (pS tO tb x + i)) ∧ B (pS tO tb x + (zS tb x - 1)) = 0
theorem ndB_0 {B : Nat → Nat} {tO : Nat → Nat} {tb : Nat → Nat → Nat} {ll : List Nat} (hin : ∀ x, x ∈ ll → sS tb x = true → pS tO tb x + zS tb x ≤ 65536) : ndB B (nd0 B tO tb ll) := fun w hw => by
  rcases nd0_char (B := B) (tO := tO) (tb := tb) (ll := ll) ll [[]] (fun x h => h) (fun w hw => Or.inl (List.mem_singleton.mp hw)) w hw with e | ⟨x, j, y, x1, x2, x3, x4, x5, x6, x7⟩
  · exact ⟨65536, by decide, by rw [e]; rfl⟩
  · exact ⟨y, by have := hin x x1 x2; omega, x7⟩
/-- byte V of section x -/
def adV (ST : Nat → Bool) (B : Nat → Nat) (pf : List Nat) (tO : Nat → Nat) (tb : Nat → Nat → Nat) (pp : Nat) (ad : Nat → Nat) (x V : Nat) : Int64 := if ST x = true then (if sS tb x = true then lN (pp + baN B pf (pS tO tb x) (zS tb x) V) else lN (ad x + V)) else lN 0
/-- what addressIn reads -/
def LAc (sk : Nat → Nat × Nat × Nat) (L : Nat) (own : Nat → Nat × Nat) (τ : px_TT) (fs : px_FS) (s : px_TK) (xs : px_NL) (ST rn : Nat → Bool) (ll : List Nat) (C B : Nat → Nat) (cpf : List Nat) (tO : Nat → Nat) (pp : Nat) (ad : Nat → Nat) : Prop := TKe sk L own τ fs s xs ST rn ∧ (STk fs s ST ∧ llS2 s ST ll ∧ ∀ x, x < 24 * s.2.2.1.length → ST x = true → x ∈ ll) ∧ CB τ C ∧ CPl τ C cpf ∧ fJ τ 1697 5 = lN pp ∧ pp < 2 ^ 40 ∧ (∀ x, x ∈ ll → sS (tB fs s.2.2.1) x = false → fJ τ (152 + x) 11 = lN (ad x)) ∧ (cpf.map (st C) = (pf0 B tO (tB fs s.2.2.1) ll).map (st B) ∧ CBR C B (cAd fs s.2.2.1 (tB fs s.2.2.1)) tO (tB fs s.2.2.1) ll)
section CAQ
variable {F : Nat} {c : px_CT} {sk : Nat → Nat × Nat × Nat} {L : Nat} {τ τ' : px_TT} {own : Nat → Nat × Nat} {fs : px_FS} {s : px_TK} {xs : px_NL} {ST rn : Nat → Bool} {ll : List Nat} {C B : Nat → Nat} {cpf : List Nat} {tO : Nat → Nat} {pp : Nat} {ad : Nat → Nat}
theorem TKe_st (h : TKe sk L own τ fs s xs ST rn) {x : Nat} (hx : x < 24 * s.2.2.1.length) : fI τ (152 + x) 9 = bI (ST x) ∧ ob sk L 8 (152 + x) := ⟨(TKe_part h hx).2.1, (TKe_part h hx).1⟩
theorem k_addressIn {x V : Nat} (hF : 65536 < F) (h : LAc sk L own τ fs s xs ST rn ll C B cpf tO pp ad) (hx : x < 24 * s.2.2.1.length) (hV : V < 2 ^ 64) : f_Pool_addressIn F c 1697 (some (152 + x)) (lN V) (cH sk L τ) = some (adV ST B (pf0 B tO (tB fs s.2.2.1) ll) tO (tB fs s.2.2.1) pp ad x V, cH sk L τ) := by
  obtain ⟨h1, ⟨hk, hl, hall⟩, hcb, hpl, h5, hpp, had, hT, hrel⟩ := h
  obtain ⟨h9, hp⟩ := TKe_st h1 hx
  have hS := h1.1
  have hR := h1.2.1
  by_cases c1 : ST x = true
  · have hxl := hall x hx c1
    obtain ⟨p4, p5, p6, p7, p10, _⟩ := TKe_pt h1 hk hx c1
    have eA : adV ST B (pf0 B tO (tB fs s.2.2.1) ll) tO (tB fs s.2.2.1) pp ad x V = (if sS (tB fs s.2.2.1) x = true then lN (pp + baN B (pf0 B tO (tB fs s.2.2.1) ll) (pS tO (tB fs s.2.2.1) x) (zS (tB fs s.2.2.1) x) V) else lN (ad x + V)) := by unfold adV; rw [if_pos c1]
    rw [eA]
    rw [c1] at h9
    by_cases c2 : sS (tB fs s.2.2.1) x = true
    · obtain ⟨r1, r2, r3, r4⟩ := hrel x hxl c2
      rw [if_pos c2]
      rw [c2] at p10
      have hz16 := (TKe_Z h1 hk hl x hxl).1
      have hpz1 := psz_le cpf hpl.2.2.1.2
      have hpz2 := stL_len hpl.2.2.1
      have hn := ndB_0 (B := B) (tO := tO) (tb := tB fs s.2.2.1) (ll := ll) (fun y hy hs => (hrel y hy hs).2.1)
      have e39 : f_Pool_addressIn_39 F c 1697 (cH sk L τ) = some (lN (pp + psz B (pf0 B tO (tB fs s.2.2.1) ll)), cH sk L τ) := by
        unfold f_Pool_addressIn_39
        rw [C9g5 (G1697 hS), bs, C9g4 (G1697 hS), bs, h5, hpl.2.1, nI_l (by omega), lN_add, psz_T hT]
      by_cases c3 : V < zS (tB fs s.2.2.1) x
      · have enx := nxt_rel (C := C) (B := B) r3 (zS (tB fs s.2.2.1) x - V) V (by omega)
        have est := st_rel (V := V) r1 r2 r3 r4 c3
        obtain ⟨m1, m2, m3⟩ := nxt_0 (B := B) (p := pS tO (tB fs s.2.2.1) x) r4 (zS (tB fs s.2.2.1) x - V) V (by omega) (by omega)
        have hsm := pf0_all (B := B) (tO := tO) (tb := tB fs s.2.2.1) (ll := ll) (x := x) hn (fun y hy hs => (hrel y hy hs).2.1) hxl c2 m3 m1
        obtain ⟨y, hy⟩ := Option.isSome_iff_exists.mp hsm
        have hi24 : x % 24 < oS (tB fs s.2.2.1 (x / 24)) := (TKe_pt h1 hk hx c1).2.2.2.2.2
        have hcin := sS_cin h1 (show x / 24 < _ by omega) hi24 c2
        have hss : off fs fs.length ≤ 65536 := by
          have hb := h1.2.2.2.2.1.1
          obtain ⟨q, hq⟩ : ∃ q, s.2.2.1[x / 24]? = some q := ⟨_, List.getElem?_eq_getElem (show x / 24 < _ by omega)⟩
          obtain ⟨o, n, b, hob⟩ := (hb.2.2.2.2.2.2 q (List.mem_of_getElem? hq)).2
          exact (CF_ob h1.2.2.1 hob).2.2.2.2.1
        have ks := k_addressIn_s (F := F) (c := c) (τ := τ) (V := V) (pa := pp) (y := y) (A := cAd fs s.2.2.1 (tB fs s.2.2.1) x) (Z := zS (tB fs s.2.2.1) x) hS hR hF hcb h1.2.2.1.2.2.2.1 hss hcin hp p7 p5 h9 p10 (by rw [r3 _ (by omega)]; exact r4) hpl hpp h5 c3 (by rw [enx, peO_T (u := _) hT, est]; exact hy)
        rw [ks, enx]
        unfold baN
        rw [if_pos c3, hy]
        rfl
      · have eb : baN B (pf0 B tO (tB fs s.2.2.1) ll) (pS tO (tB fs s.2.2.1) x) (zS (tB fs s.2.2.1) x) V = psz B (pf0 B tO (tB fs s.2.2.1) ll) := by unfold baN; rw [if_neg c3]
        rw [eb]
        unfold f_Pool_addressIn
        rw [bs, C8g9 hp, bs, h9, if_neg (show ¬ bI true = 0 by decide), C8g10 hp, bs, p10, if_neg (show ¬ bI true = 0 by decide)]
        by_cases c4 : V < 2 ^ 63
        · rw [if_neg (show ¬ lN V < lN 0 from fun w => by have := (lN_neg hV).mp w; omega), C8g5 hp, bs, p5, nI_l (by omega), if_neg (show ¬ lN V < lN (zS (tB fs s.2.2.1) x) from fun w => c3 ((pk_lLT c4 (by omega)).mp w)), e39]
        · rw [if_pos ((lN_neg hV).mpr (by omega)), e39]
    · rw [if_neg c2]
      have c2' : sS (tB fs s.2.2.1) x = false := by cases hh : sS (tB fs s.2.2.1) x with | false => rfl | true => exact absurd hh c2
      rw [c2'] at p10
      unfold f_Pool_addressIn
      rw [bs, C8g9 hp, bs, h9, if_neg (show ¬ bI true = 0 by decide), C8g10 hp, bs, p10, if_pos (show bI false = 0 from rfl), C8g11 hp, bs, had x hxl c2', lN_add]
  · have c1' : ST x = false := by cases hh : ST x with | false => rfl | true => exact absurd hh c1
    have eA : adV ST B (pf0 B tO (tB fs s.2.2.1) ll) tO (tB fs s.2.2.1) pp ad x V = lN 0 := by unfold adV; rw [if_neg c1]
    rw [eA]
    rw [c1'] at h9
    unfold f_Pool_addressIn
    rw [bs, C8g9 hp, bs, h9, if_pos (show bI false = 0 from rfl)]
/-- frames that addressIn's cells bear -/
theorem LAc_J {J : Nat → Nat → Prop} (h : LAc sk L own τ fs s xs ST rn ll C B cpf tO pp ad) (f : frJE J E0 τ τ') (hJ : ∀ a k, J a k → (a = 1700) ∨ (152 ≤ a ∧ a < 1688 ∧ k = 11 ∧ sS (tB fs s.2.2.1) (a - 152) = true) ∨ (1815 ≤ a ∧ k = 14)) : LAc sk L own τ' fs s xs ST rn ll C B cpf tO pp ad := by
  obtain ⟨h1, ⟨hk, hl, hall⟩, hcb, hpl, h5, hpp, had, hT, hrel⟩ := h
  have hT4 := BK_T (s := s) h1.2.2.2.2.1.1
  have fl := frJE_Ly f (fun a k w => by have := hJ a k w; omega) (fun a i w => w.elim)
  refine ⟨TKe_Ly h1 fl, ⟨hk, hl, hall⟩, CB_Ly hcb fl, CPl_fx hpl (f.1 1697 3) (f.1 1697 4) (f.2.2.2.1 1698) (f.2.2.2.1 1699), ?_, hpp, fun x hx hs => ?_, hT, hrel⟩
  · rw [f.2.1 _ _ (fun w => by have := hJ _ _ w; omega)]; exact h5
  · have hx1 := (hl.2 x hx).1
    rw [f.2.1 _ _ (fun w => by
      rcases hJ _ _ w with q | q | q
      · omega
      · have q4 := q.2.2.2
        rw [show 152 + x - 152 = x by omega, hs] at q4
        exact absurd q4 (by decide)
      · omega)]
    exact had x hx hs
end CAQ
end
section
/-! the class's addresses of strings' sections and of names -/
def J18 (tb : Nat → Nat → Nat) (a k : Nat) : Prop := 152 ≤ a ∧ a < 1688 ∧ k = 11 ∧ sS tb (a - 152) = true
def J60 (a k : Nat) : Prop := 1815 ≤ a ∧ k = 14
section CAL
variable {F : Nat} {c : px_CT} {sk : Nat → Nat × Nat × Nat} {L : Nat} {own : Nat → Nat × Nat} {fs : px_FS} {s : px_TK} {xs : px_NL} {ST rn : Nat → Bool} {ll : List Nat} {C B : Nat → Nat} {cpf : List Nat} {tO : Nat → Nat} {pp : Nat} {ad : Nat → Nat}
theorem k_ly_18 (hF : 65536 < F) : ∀ (d P f : Nat) (τ : px_TT), P + d = ll.length → d < f → LAc sk L own τ fs s xs ST rn ll C B cpf tO pp ad → COr τ ll → (∀ x, x ∈ ll.take P → sS (tB fs s.2.2.1) x = true → fJ τ (152 + x) 11 = lN (pp + baN B (pf0 B tO (tB fs s.2.2.1) ll) (pS tO (tB fs s.2.2.1) x) (zS (tB fs s.2.2.1) x) 0)) → ∃ τ', f_Layout_lay_18 F c f 1700 (nI P) (cH sk L τ) = f_Layout_lay_58 F c 1700 (cH sk L τ') ∧ (∀ x, x ∈ ll → sS (tB fs s.2.2.1) x = true → fJ τ' (152 + x) 11 = lN (pp + baN B (pf0 B tO (tB fs s.2.2.1) ll) (pS tO (tB fs s.2.2.1) x) (zS (tB fs s.2.2.1) x) 0)) ∧ frJE (J18 (tB fs s.2.2.1)) E0 τ τ' := by
  intro d
  induction d with
  | zero =>
    intro P f τ hP hf h ho hA
    obtain ⟨f, rfl⟩ : ∃ x, f = x + 1 := ⟨f - 1, by omega⟩
    have hl1 := h.2.1.2.1.1
    refine ⟨τ, ?_, fun x hx hs => hA x (by rw [List.take_of_length_le (by omega)]; exact hx) hs, frJE_refl⟩
    unfold f_Layout_lay_18
    rw [C2g11 (G1700 h.1.1), bs, ho.1, if_pos (nI_le (by omega) (by omega))]
  | succ d ih =>
    intro P f τ hP hf h ho hA
    obtain ⟨f, rfl⟩ : ∃ x, f = x + 1 := ⟨f - 1, by omega⟩
    have hl1 := h.2.1.2.1.1
    have hPl : P < ll.length := by omega
    obtain ⟨x, hx⟩ : ∃ x, ll[P]? = some x := ⟨_, List.getElem?_eq_getElem hPl⟩
    have hxm := List.mem_of_getElem? hx
    have hx2 := h.2.1.2.1.2 x hxm
    have hT := BK_T (s := s) h.1.2.2.2.2.1.1
    have hp := (TKe_st h.1 hx2.1).2
    have p10 := (TKe_pt h.1 h.2.1.1 hx2.1 hx2.2).2.2.2.2.1
    have kp := k_partAt (F := F) (c := c) h.1.1 h.1.2.1 ho hl1 hx
    have o := G1700 h.1.1
    have htk : ∀ y, y ∈ ll.take (P + 1) → y ∈ ll.take P ∨ y = x := fun y hy => by
      rw [List.take_succ, hx] at hy
      rcases List.mem_append.mp hy with q | q
      · exact Or.inl q
      · exact Or.inr (List.mem_singleton.mp q)
    unfold f_Layout_lay_18 f_Layout_lay_52
    rw [C2g11 o, bs, ho.1, if_neg (nI_ge hPl (by omega)), c_o o, bs, kp, xb_mk, bs, C8g10 hp, bs, p10, nI_add]
    by_cases c1 : sS (tB fs s.2.2.1) x = true
    · have ka := k_addressIn (F := F) (c := c) (V := 0) hF h hx2.1 (by decide)
      have eA : adV ST B (pf0 B tO (tB fs s.2.2.1) ll) tO (tB fs s.2.2.1) pp ad x 0 = lN (pp + baN B (pf0 B tO (tB fs s.2.2.1) ll) (pS tO (tB fs s.2.2.1) x) (zS (tB fs s.2.2.1) x) 0) := by unfold adV; rw [if_pos hx2.2, if_pos c1]
      rw [eA] at ka
      obtain ⟨τ1, hτ1⟩ : ∃ y, y = tJ τ (152 + x) 11 (lN (pp + baN B (pf0 B tO (tB fs s.2.2.1) ll) (pS tO (tB fs s.2.2.1) x) (zS (tB fs s.2.2.1) x) 0)) := ⟨_, rfl⟩
      have f1 : frJE (J18 (tB fs s.2.2.1)) E0 τ τ1 := by rw [hτ1]; exact frJE_J ⟨by omega, by omega, rfl, by rw [show 152 + x - 152 = x by omega]; exact c1⟩
      obtain ⟨τ2, g1, g2, g3⟩ := ih (P + 1) f τ1 (by omega) (by omega) (LAc_J h f1 (fun a k w => Or.inr (Or.inl w))) (COr_fx ho (f1.1 1700 11) (f1.2.2.2.2.2 1701)) (fun y hy hs => by
        by_cases cy : y = x
        · rw [cy, hτ1, tJ_at]
        · have hy2 := (htk y hy).resolve_right cy
          rw [hτ1, tJ_ne (Or.inl (by omega))]
          exact hA y hy2 hs)
      refine ⟨τ2, ?_, g2, frJE_trans f1 g3⟩
      rw [c1, if_neg (show ¬ bI true = 0 by decide), C2r1 o (GR_r (v := 1697) h.1.2.1 (by decide)), bs, c_o (G1697 h.1.1), bs, ka, xb_mk, C8p11 hp, bs, ← hτ1, g1]
    · have c1' : sS (tB fs s.2.2.1) x = false := by cases hh : sS (tB fs s.2.2.1) x with | false => rfl | true => exact absurd hh c1
      obtain ⟨τ2, g1, g2, g3⟩ := ih (P + 1) f τ (by omega) (by omega) h ho (fun y hy hs => by
        rcases htk y hy with q | q
        · exact hA y q hs
        · rw [q] at hs; exact absurd hs c1)
      refine ⟨τ2, ?_, g2, g3⟩
      rw [c1', if_pos (show bI false = 0 from rfl), g1]
/-- how the address of a definition goes by its section -/
theorem ownV_c {tb : Nat → Nat → Nat} {dr : Nat → Bool} {on : Bool} {R : Nat → Bool} {pf : List Nat} {t k : Nat} (hy : yOK (tb t) k = true) (hS : oS (tb t) ≤ 24) (hc : yW (tb t) k ≠ 65522) (hST : ∀ i, i < 24 → ST (24 * t + i) = (kpB (tb t) i && (!dr (24 * t + i) && (!on || R (24 * t + i))))) : ownV B pf tO tb dr (sta tb dr on R) pp ad t k = if yW (tb t) k = 0 then lN 0 else if yW (tb t) k < 24 ∧ (kpB (tb t) (yW (tb t) k) = true ∨ dr (24 * t + yW (tb t) k) = true) then adV ST B pf tO tb pp ad (24 * t + yW (tb t) k) (yV (tb t) k) else lN (yV (tb t) k) := by
  have hw := (of_decide_eq_true hy).2.1
  have eW : wNo dr t (tb t) k = if 0 < yW (tb t) k ∧ yW (tb t) k < 24 ∧ dr (24 * t + yW (tb t) k) = true then 0 else yW (tb t) k := rfl
  unfold ownV
  generalize yW (tb t) k = w at *
  generalize wNo dr t (tb t) k = u at *
  generalize yV (tb t) k = V at *
  by_cases c0 : w = 0
  · have eu : u = 0 := by rw [eW, if_neg (by omega)]; exact c0
    rw [if_pos eu, if_pos c0]
  · rw [if_neg c0]
    by_cases c1 : w < 24
    · have e1 : (24 * t + w) / 24 = t := by omega
      have e2 : (24 * t + w) % 24 = w := by omega
      have hs := hST w c1
      by_cases c2 : dr (24 * t + w) = true
      · have eu : u = 0 := by rw [eW, if_pos ⟨by omega, c1, c2⟩]
        rw [if_pos eu, if_pos ⟨c1, Or.inr c2⟩]
        rw [c2] at hs
        have hs : ST (24 * t + w) = false := by rw [hs]; cases kpB (tb t) w <;> rfl
        unfold adV
        rw [if_neg (by rw [hs]; decide)]
      · have c2' : dr (24 * t + w) = false := by cases hh : dr (24 * t + w) with | false => rfl | true => exact absurd hh c2
        have eu : u = w := by rw [eW, if_neg (fun q => c2 q.2.2)]
        rw [eu, if_neg c0]
        rw [c2'] at hs
        have hwS : w < oS (tb t) := by omega
        have ek : kpB (tb t) w = oK (tb t) w := by unfold kpB; rw [decide_eq_true hwS, Bool.true_and]
        rw [ek] at hs ⊢
        by_cases c3 : oK (tb t) w = true
        · rw [if_neg (show ¬ (w = 65521 ∨ oK (tb t) w = false) from fun q => by
            rcases q with q | q
            · omega
            · rw [c3] at q; exact absurd q (by decide))]
          have eR : (if w < 24 ∧ (oK (tb t) w = true ∨ dr (24 * t + w) = true) then adV ST B pf tO tb pp ad (24 * t + w) V else lN V) = adV ST B pf tO tb pp ad (24 * t + w) V := if_pos ⟨c1, Or.inl c3⟩
          rw [eR]
          have hsy : sta tb dr on R t w = ST (24 * t + w) := by
            unfold sta
            rw [hs, c2']
          rw [hsy]
          unfold adV
          by_cases c4 : ST (24 * t + w) = true
          · rw [if_neg (by rw [c4]; decide), if_pos c4]
            have es : sS tb (24 * t + w) = oStr (tb t) w := by unfold sS; rw [e1, e2]
            have ez : zS tb (24 * t + w) = oZ (tb t) w := by unfold zS; rw [e1, e2]
            have ep : pS tO tb (24 * t + w) = tO t + oP (tb t) w := by unfold pS; rw [e1, e2]
            rw [es, ez, ep]
          · have c4' : ST (24 * t + w) = false := by cases hh : ST (24 * t + w) with | false => rfl | true => exact absurd hh c4
            rw [if_pos c4', if_neg c4]
        · have c3' : oK (tb t) w = false := by cases hh : oK (tb t) w with | false => rfl | true => exact absurd hh c3
          rw [if_pos (Or.inr c3'), if_neg (fun q => by
            rcases q.2 with q | q
            · exact c3 q
            · exact c2 q)]
    · have eu : u = w := by rw [eW, if_neg (fun q => c1 q.2.1)]
      rw [eu, if_neg c0, if_pos (Or.inl (by omega)), if_neg (fun q => c1 q.1)]
theorem k_nat148 {τ : px_TT} {i : Nat} (h : TKe sk L own τ fs s xs ST rn) (hi : i < xs.length) : f_Names_at F c 148 (nI i) (cH sk L τ) = some (some (pN τ 149 i), cH sk L τ) := by
  obtain ⟨s1, s2, s3, s4, s5, s6, s7⟩ := h.2.2.2.1.2.1.1
  obtain ⟨z1, z2, z3, z4⟩ := s7 i _ (List.getElem?_eq_getElem (show i < (xs.map Prod.fst).length by rw [List.length_map]; exact hi))
  rw [List.length_map] at s4 s6
  unfold f_Names_at
  rw [if_neg (show ¬ nI i < 0 from nI_nlt (b := 0) (Nat.zero_le _) (by omega)), C6g2 s1, bs, s6, if_neg (nI_ge hi (by omega)), C6r0 s1 s2, bs, c_l s3 (by decide), bs, if_neg (nI_ge (by omega) (by omega)), bs, c_aN s3 (by decide) (by omega) (by omega), bs]
  unfold f_Names_at_31 f_Names_at_44
  rw [z2]
theorem k_ownAddress {τ : px_TT} {te bg2 fb2 bss mb2 k : Nat} (hS : GS sk L) (hR : GR τ) (h1 : 1 ≤ k) (hk : k ≤ 4) (h14 : fJ τ 1700 14 = lN te) (h15 : fJ τ 1700 15 = lN bss) (e5 : eJ τ 1705 2 = lN bg2) (e6 : eJ τ 1706 2 = lN fb2) (e7 : eJ τ 1707 2 = lN mb2) : f_Layout_ownAddress F c 1700 (lN (k - 1)).toInt32 (cH sk L τ) = some (lN (ownK te bg2 fb2 bss mb2 k), cH sk L τ) := by
  have o := G1700 hS
  rw [lN_i]
  unfold f_Layout_ownAddress ownK
  by_cases c1 : k = 1
  · rw [c1, if_pos rfl, if_pos rfl, C2g14 o, bs, h14]
  · rw [if_neg (fun q => by have := (nI_eq (by omega) (by decide)).mp q; omega), if_neg c1]
    by_cases c2 : k = 2
    · rw [c2, if_pos rfl, if_pos rfl, C2r6 o (GR_r (v := 1705) hR (by decide)), bs, c_aJ (G1705 hS) (by decide) (by decide), bs, C2r7 o (GR_r (v := 1706) hR (by decide)), bs, c_aJ (G1706 hS) (by decide) (by decide), bs, e5, e6, lN_add]
    · rw [if_neg (fun q => by have := (nI_eq (by omega) (by decide)).mp q; omega), if_neg c2]
      by_cases c3 : k = 3
      · rw [c3, if_pos rfl, if_pos rfl, C2g15 o, bs, h15]
      · rw [if_neg (fun q => by have := (nI_eq (by omega) (by decide)).mp q; omega), if_neg c3, C2r6 o (GR_r (v := 1705) hR (by decide)), bs, c_aJ (G1705 hS) (by decide) (by decide), bs, C2r8 o (GR_r (v := 1707) hR (by decide)), bs, c_aJ (G1707 hS) (by decide) (by decide), bs, e5, e7, lN_add]
end CAL
end
section
/-! the class's addresses of names -/
theorem pc1_y {xs : px_NL} {on : Bool} {rn : Nat → Bool} {th : Bool} {s : px_PG} {n : Nat} (h : cB xs on rn n = true) : ∃ v w o, pc1 xs on rn th s n = (w, (fun y => if y = n then v else s.2.1 y), o) := ⟨pcA xs th s.1 n, _, _, by unfold pc1; rw [if_pos h]⟩
theorem pc1_n {xs : px_NL} {on : Bool} {rn : Nat → Bool} {th : Bool} {s : px_PG} {n : Nat} (h : ¬ cB xs on rn n = true) : pc1 xs on rn th s n = s := by unfold pc1; rw [if_neg h]
theorem pc_no {xs : px_NL} {on : Bool} {rn : Nat → Bool} {th : Bool} {m : Nat} (hm : ¬ cB xs on rn m = true) : ∀ (l : List Nat) (s : px_PG), (l.foldl (pc1 xs on rn th) s).2.1 m = s.2.1 m := by
  intro l
  induction l with
  | nil => intro s; rfl
  | cons n l ih =>
    intro s
    rw [List.foldl_cons, ih]
    by_cases c1 : cB xs on rn n = true
    · obtain ⟨v, w, o, e⟩ := pc1_y (th := th) (s := s) c1
      rw [e]
      show (if m = n then v else s.2.1 m) = _
      rw [if_neg (fun q => hm (by rw [q]; exact c1))]
    · rw [pc1_n c1]
theorem own1_ge {k : Nat} {w : List Nat} {xs : px_NL} (hk : 1 ≤ k ∧ k ≤ 4) (h : AL (fun x => x.2.1 = 4 → 1 ≤ x.2.2.2.1 ∧ x.2.2.2.1 ≤ 4) xs) : AL (fun x => x.2.1 = 4 → 1 ≤ x.2.2.2.1 ∧ x.2.2.2.1 ≤ 4) (own1 k w xs) := AL_own1 (fun _ _ _ _ => hk) h
theorem ownL_ge {xs : px_NL} (h : AL (fun x => x.2.1 ≤ 3) xs) : AL (fun x => x.2.1 = 4 → 1 ≤ x.2.2.2.1 ∧ x.2.2.2.1 ≤ 4) (ownL xs) := by
  unfold ownL
  exact own1_ge ⟨by decide, by decide⟩ (own1_ge ⟨by decide, by decide⟩ (own1_ge ⟨by decide, by decide⟩ (own1_ge ⟨by decide, by decide⟩ (fun i x hx e => by have := h i x hx; omega))))
/-- the numbers of the layout that names are laid by -/
def LYn (τ : px_TT) (te bg2 fb2 bss mb2 : Nat) : Prop := fJ τ 1700 14 = lN te ∧ fJ τ 1700 15 = lN bss ∧ eJ τ 1705 2 = lN bg2 ∧ eJ τ 1706 2 = lN fb2 ∧ eJ τ 1707 2 = lN mb2
section CAM
variable {F : Nat} {c : px_CT} {sk : Nat → Nat × Nat × Nat} {L : Nat} {own : Nat → Nat × Nat} {fs : px_FS} {s : px_TK} {xs : px_NL} {ST rn : Nat → Bool} {ll : List Nat} {C B : Nat → Nat} {cpf : List Nat} {tO : Nat → Nat} {pp : Nat} {ad : Nat → Nat} {on : Bool} {R rn0 : Nat → Bool} {te bg2 fb2 bss mb2 : Nat} {na : Nat → Nat}
theorem STr_i (hr : STr fs s on R ST) {t : Nat} (ht : t < s.2.2.1.length) : ∀ i, i < 24 → ST (24 * t + i) = (kpB (tB fs s.2.2.1 t) i && (!s.2.1.1 (24 * t + i) && (!on || R (24 * t + i)))) := fun i hi => by
  have := hr (24 * t + i) (by omega)
  rw [show (24 * t + i) / 24 = t by omega, show (24 * t + i) % 24 = i by omega] at this
  exact this
theorem k_addressOf {τ : px_TT} {i : Nat} {x : List Nat × px_NR} (hF : 65536 < F) (h : LAc sk L own τ fs s xs ST rn ll C B cpf tO pp ad) (hr : STr fs s on R ST) (hW : WP s.2.2.1.length (tB fs s.2.2.1) s.2.1.1 xs) (hg : AL (fun x => x.2.1 = 4 → 1 ≤ x.2.2.2.1 ∧ x.2.2.2.1 ≤ 4) xs) (hn : LYn τ te bg2 fb2 bss mb2) (hx : xs[i]? = some x) (hcm : x.2.1 = 2 → (rn i = true → fJ τ (pN τ 149 i) 14 = lN (na i)) ∧ (rn i = false → na i = 0)) : f_Layout_addressOf F c 1700 (some (pN τ 149 i)) (cH sk L τ) = some (naV (ownV B (pf0 B tO (tB fs s.2.2.1) ll) tO (tB fs s.2.2.1) s.2.1.1 (sta (tB fs s.2.2.1) s.2.1.1 on R) pp ad) (ownK te bg2 fb2 bss mb2) na i x.2, cH sk L τ) := by
  have hS := h.1.1
  have hR := h.1.2.1
  have o := G1700 hS
  obtain ⟨z1, z2, hp, z4⟩ := CLm_at h.1.2.2.2.1.2.1 hx
  obtain ⟨⟨_, _, cd⟩, c13⟩ := h.1.2.2.2.1.2.1.2.1 i x hx
  obtain ⟨d0, d4, d2, dn, ds⟩ := cd
  have hby := hW.2.2.1 i x hx
  have hle : x.2.1 ≤ 4 := h.1.2.2.2.2.2.1 i x hx
  have hg4 := hg i x hx
  obtain ⟨w, r⟩ := x
  obtain ⟨st, fl, ok, by', gv, cs, cv⟩ := r
  unfold f_Layout_addressOf f_Layout_addressOf_62 f_Layout_addressOf_83
  rw [bs, C5g5 hp, bs]
  by_cases e2 : st = 2
  · subst e2
    have f13 := c13 rfl
    have d2 := d2 rfl
    have hcm := hcm rfl
    show _ = some (lN (na i), _)
    rw [d2.1, if_neg (by decide), if_neg (by decide), if_pos rfl, C5g13 hp, bs, f13]
    cases er : rn i with
    | false => rw [if_pos (show bI false = 0 from rfl), hcm.2 er]
    | true => rw [if_neg (show ¬ bI true = 0 by decide), C5g14 hp, bs, hcm.1 er]
  · by_cases e4 : st = 4
    · subst e4
      have d4 := d4 rfl
      have g4 := hg4 rfl
      have ko := k_ownAddress (F := F) (c := c) (k := ok) hS hR g4.1 g4.2 hn.1 hn.2.1 hn.2.2.1 hn.2.2.2.1 hn.2.2.2.2
      show _ = some (lN (ownK te bg2 fb2 bss mb2 ok), _)
      rw [d4.1, if_neg (by decide), if_neg (by decide), if_neg (by decide), if_pos rfl, C5g7 hp, bs, d4.2, c_o o, bs]
      show xb (f_Layout_ownAddress F c 1700 (lN (ok - 1)).toInt32 (cH sk L τ)) _ = _
      rw [ko, xb_mk]
    · by_cases e0 : st = 0
      · subst e0
        rw [d0 rfl, if_neg (by decide), if_neg (by decide), if_neg (by decide), if_neg (by decide)]
        rfl
      · have e13 : st = 1 ∨ st = 3 := by
          have : st ≤ 4 := hle
          omega
        cases by' with
        | none =>
          have dn := dn e13 rfl
          have en : naV (ownV B (pf0 B tO (tB fs s.2.2.1) ll) tO (tB fs s.2.2.1) s.2.1.1 (sta (tB fs s.2.2.1) s.2.1.1 on R) pp ad) (ownK te bg2 fb2 bss mb2) na i (st, fl, ok, none, gv, cs, cv) = gv := by unfold naV; rw [if_neg e2, if_neg e4, if_neg e0]
          rw [en, dn.1, if_neg (by decide), if_pos rfl, C5g7 hp, bs, dn.2]
        | some q =>
          obtain ⟨t, k⟩ := q
          obtain ⟨hv, hfx, hsc⟩ := ds e13 t k rfl
          have hby : t < s.2.2.1.length ∧ (1 ≤ k ∧ k < oM (tB fs s.2.2.1 t)) ∧ yB (tB fs s.2.2.1 t) k ≠ 0 ∧ sOf s.2.1.1 t (tB fs s.2.2.1 t) k = st ∧ st ≠ 0 ∧ yT (tB fs s.2.2.1 t) k = w := hby
          have en : naV (ownV B (pf0 B tO (tB fs s.2.2.1) ll) tO (tB fs s.2.2.1) s.2.1.1 (sta (tB fs s.2.2.1) s.2.1.1 on R) pp ad) (ownK te bg2 fb2 bss mb2) na i (st, fl, ok, some (t, k), gv, cs, cv) = ownV B (pf0 B tO (tB fs s.2.2.1) ll) tO (tB fs s.2.2.1) s.2.1.1 (sta (tB fs s.2.2.1) s.2.1.1 on R) pp ad t k := by unfold naV; rw [if_neg e2, if_neg e4, if_neg e0]
          obtain ⟨qq, hq, _, _, _, he, _, _, _⟩ := TKe_ob h.1 hby.1
          obtain ⟨w2', hyk, _⟩ := eObj_0 he
          have hyo := hyk k hby.2.1.1 hby.2.1.2
          have hS24 := w2'.1.2.1.2
          have hV : yV (tB fs s.2.2.1 t) k < 2 ^ 64 := by
            obtain ⟨_, _, _, _, e5, _⟩ := TKe_ob h.1 hby.1
            rw [← e5]
            exact le_lt (cb_lt _ _ _) _ 8
          have hso : wNo s.2.1.1 t (tB fs s.2.2.1 t) k ≠ 0 ∧ wNo s.2.1.1 t (tB fs s.2.2.1 t) k ≠ 65522 := by
            have h4 := hby.2.2.2.1
            unfold sOf at h4
            refine ⟨fun q => ?_, fun q => ?_⟩
            · rw [if_pos q] at h4; exact e0 h4.symm
            · rw [q, if_neg (by decide), if_pos rfl] at h4; exact e2 h4.symm
          have hw0 : yW (tB fs s.2.2.1 t) k ≠ 0 ∧ yW (tB fs s.2.2.1 t) k ≠ 65522 := by
            unfold wNo at hso
            refine ⟨fun q => ?_, fun q => ?_⟩
            · rw [if_neg (by omega)] at hso; exact hso.1 q
            · rw [if_neg (by omega)] at hso; exact hso.2 q
          rw [en, ownV_c (ST := ST) hyo hS24 hw0.2 (STr_i hr hby.1), if_neg hw0.1]
          by_cases cw : yW (tB fs s.2.2.1 t) k = 65521
          · rw [hfx cw, if_neg (by decide), if_pos rfl, C5g7 hp, bs, hv, if_neg (fun q => by omega)]
          · have hwS : yW (tB fs s.2.2.1 t) k < oS (tB fs s.2.2.1 t) := by
              have := (of_decide_eq_true hyo).2.1
              omega
            have hkp : kpB (tB fs s.2.2.1 t) (yW (tB fs s.2.2.1 t) k) = true := by
              have := ((of_decide_eq_true hyo).2.2.2 hby.2.2.1).1 (by omega) hwS
              unfold kpB
              rw [this, decide_eq_true hwS]; rfl
            have hsc := hsc cw
            have ka := k_addressIn (F := F) (c := c) (x := 24 * t + yW (tB fs s.2.2.1 t) k) hF h (by have := hby.1; omega) hV
            have eR : (if yW (tB fs s.2.2.1 t) k < 24 ∧ (kpB (tB fs s.2.2.1 t) (yW (tB fs s.2.2.1 t) k) = true ∨ s.2.1.1 (24 * t + yW (tB fs s.2.2.1 t) k) = true) then adV ST B (pf0 B tO (tB fs s.2.2.1) ll) tO (tB fs s.2.2.1) pp ad (24 * t + yW (tB fs s.2.2.1 t) k) (yV (tB fs s.2.2.1 t) k) else lN (yV (tB fs s.2.2.1 t) k)) = adV ST B (pf0 B tO (tB fs s.2.2.1) ll) tO (tB fs s.2.2.1) pp ad (24 * t + yW (tB fs s.2.2.1 t) k) (yV (tB fs s.2.2.1 t) k) := if_pos ⟨by omega, Or.inl hkp⟩
            rw [eR, hsc.1, if_pos rfl, C5n6 hp, bs, hsc.2]
            show ((xgR (cH sk L τ) 2 1 1700).bind fun t5 => _) = _
            rw [C2r1 o (GR_r (v := 1697) hR (by decide)), bs, bs, C5g7 hp, bs, hv, c_o (G1697 hS), bs, ka, xb_mk]
theorem k_ly_60 (hF : 65536 < F) (hr : STr fs s on R ST) (hW : WP s.2.2.1.length (tB fs s.2.2.1) s.2.1.1 xs) (hg : AL (fun x => x.2.1 = 4 → 1 ≤ x.2.2.2.1 ∧ x.2.2.2.1 ≤ 4) xs) (hna : ∀ i, rn i = false → na i = 0) : ∀ (d i f : Nat) (τ : px_TT), i + d = xs.length → d < f → LAc sk L own τ fs s xs ST rn ll C B cpf tO pp ad → LYn τ te bg2 fb2 bss mb2 → (∀ n, i ≤ n → n < xs.length → stN xs n = 2 → rn n = true → fJ τ (pN τ 149 n) 14 = lN (na n)) → (∀ j, j < i → fJ τ (pN τ 149 j) 14 = naF (ownV B (pf0 B tO (tB fs s.2.2.1) ll) tO (tB fs s.2.2.1) s.2.1.1 (sta (tB fs s.2.2.1) s.2.1.1 on R) pp ad) (ownK te bg2 fb2 bss mb2) na xs j) → ∃ τ', f_Layout_lay_60 F c f 1700 (nI i) (cH sk L τ) = some ((), cH sk L τ') ∧ (∀ j, j < xs.length → fJ τ' (pN τ' 149 j) 14 = naF (ownV B (pf0 B tO (tB fs s.2.2.1) ll) tO (tB fs s.2.2.1) s.2.1.1 (sta (tB fs s.2.2.1) s.2.1.1 on R) pp ad) (ownK te bg2 fb2 bss mb2) na xs j) ∧ frJE J60 E0 τ τ' := by
  intro d
  induction d with
  | zero =>
    intro i f τ hi hf h hn hc hA
    obtain ⟨f, rfl⟩ : ∃ x, f = x + 1 := ⟨f - 1, by omega⟩
    obtain ⟨s1, s2, s3, s4, s5, s6, s7⟩ := h.1.2.2.2.1.2.1.1
    rw [List.length_map] at s4 s6
    refine ⟨τ, ?_, fun j hj => hA j (by omega), frJE_refl⟩
    unfold f_Layout_lay_60 f_Layout_lay_101
    rw [C2r0 (G1700 h.1.1) (GR_r (v := 147) h.1.2.1 (by decide)), bs, C3r3 (G147 h.1.1) (GR_r (v := 148) h.1.2.1 (by decide)), bs, C6g2 s1, bs, s6, if_pos (nI_le (by omega) (by omega))]
  | succ d ih =>
    intro i f τ hi hf h hn hc hA
    obtain ⟨f, rfl⟩ : ∃ x, f = x + 1 := ⟨f - 1, by omega⟩
    have hil : i < xs.length := by omega
    obtain ⟨x, hx⟩ : ∃ x, xs[i]? = some x := ⟨_, List.getElem?_eq_getElem hil⟩
    have hgx : xs.getD i ([], nr0) = x := by rw [List.getD_eq_getElem?_getD, hx]; rfl
    obtain ⟨s1, s2, s3, s4, s5, s6, s7⟩ := h.1.2.2.2.1.2.1.1
    rw [List.length_map] at s4 s6
    obtain ⟨_, z2, hp, _⟩ := CLm_at h.1.2.2.2.1.2.1 hx
    have hge := (h.1.2.2.2.1.1 149 i _ (Or.inr (Or.inr rfl)) z2).1
    have ka := k_addressOf (F := F) (c := c) (on := on) (R := R) (te := te) (bg2 := bg2) (fb2 := fb2) (bss := bss) (mb2 := mb2) (na := na) hF h hr hW hg hn hx (fun e => ⟨fun er => hc i (Nat.le_refl _) hil (by unfold stN; rw [hgx]; exact e) er, hna i⟩)
    have eV : naV (ownV B (pf0 B tO (tB fs s.2.2.1) ll) tO (tB fs s.2.2.1) s.2.1.1 (sta (tB fs s.2.2.1) s.2.1.1 on R) pp ad) (ownK te bg2 fb2 bss mb2) na i x.2 = naF (ownV B (pf0 B tO (tB fs s.2.2.1) ll) tO (tB fs s.2.2.1) s.2.1.1 (sta (tB fs s.2.2.1) s.2.1.1 on R) pp ad) (ownK te bg2 fb2 bss mb2) na xs i := by unfold naF; rw [hgx]
    rw [eV] at ka
    obtain ⟨τ1, hτ1⟩ : ∃ y, y = tJ τ (pN τ 149 i) 14 (naF (ownV B (pf0 B tO (tB fs s.2.2.1) ll) tO (tB fs s.2.2.1) s.2.1.1 (sta (tB fs s.2.2.1) s.2.1.1 on R) pp ad) (ownK te bg2 fb2 bss mb2) na xs i) := ⟨_, rfl⟩
    have f1 : frJE J60 E0 τ τ1 := by rw [hτ1]; exact frJE_J ⟨hge, rfl⟩
    have eP : ∀ n, pN τ1 149 n = pN τ 149 n := fun n => by unfold pN; rw [f1.2.2.2.2.2]
    have hne : ∀ n, n < xs.length → n ≠ i → pN τ 149 n ≠ pN τ 149 i := fun n hn2 hni => by
      have zn := (CLm_at h.1.2.2.2.1.2.1 (List.getElem?_eq_getElem hn2)).2.1
      exact NP_ne h.1.2.2.2.1.1 (Or.inr (Or.inr rfl)) (Or.inr (Or.inr rfl)) zn z2 (fun q => hni q.2)
    obtain ⟨τ2, g1, g2, g3⟩ := ih (i + 1) f τ1 (by omega) (by omega) (LAc_J h f1 (fun a k w => Or.inr (Or.inr w))) ⟨by rw [f1.2.1 _ _ (fun w => by unfold J60 at w; omega)]; exact hn.1, by rw [f1.2.1 _ _ (fun w => by unfold J60 at w; omega)]; exact hn.2.1, by rw [f1.2.2.2.2.1 _ _ (fun w => w)]; exact hn.2.2.1, by rw [f1.2.2.2.2.1 _ _ (fun w => w)]; exact hn.2.2.2.1, by rw [f1.2.2.2.2.1 _ _ (fun w => w)]; exact hn.2.2.2.2⟩ (fun n h1 h2 h3 h4 => by
      rw [eP, hτ1, tJ_ne (Or.inl (hne n h2 (by omega)))]
      exact hc n (by omega) h2 h3 h4) (fun j hj => by
      rw [eP]
      by_cases cj : j = i
      · rw [cj, hτ1, tJ_at]
      · rw [hτ1, tJ_ne (Or.inl (hne j (by omega) cj))]
        exact hA j (by omega))
    refine ⟨τ2, ?_, g2, frJE_trans f1 g3⟩
    unfold f_Layout_lay_60
    rw [C2r0 (G1700 h.1.1) (GR_r (v := 147) h.1.2.1 (by decide)), bs, C3r3 (G147 h.1.1) (GR_r (v := 148) h.1.2.1 (by decide)), bs, C6g2 s1, bs, s6, if_neg (nI_ge hil (by omega)), bs, C3r3 (G147 h.1.1) (GR_r (v := 148) h.1.2.1 (by decide)), bs, c_o s1, bs, k_nat148 h.1 hil, xb_mk, c_o (G1700 h.1.1), bs, ka, xb_mk, bs, C5p14 hp, bs, ← hτ1, nI_add, g1]
end CAM
end
section
/-! lay of the class, whole -/
section LIL
variable {T : Nat} {tb : Nat → Nat → Nat} {sy : Nat → Nat → Bool}
theorem LI_2 {u t : Nat} (hu : u < 6) (ht : t < T) (hS : oS (tb t) ≤ 24) : ∀ (c i : Nat) (l : List Nat), 1 ≤ i → i + c = oS (tb t) → LI T tb sy u (24 * t + i) l → LI T tb sy u (24 * (t + 1)) (itr (lay3 tb sy (gOf u) t) i c l) := by
  intro c
  induction c with
  | zero => intro i l _ hi h; rw [itr_0]; exact LI_p h (by omega)
  | succ c ih => intro i l h1 hi h; rw [itr_s]; exact ih (i + 1) _ (by omega) (by omega) (LI_3 hu ht h1 (by omega) hS h)
theorem LI_1 {u : Nat} (hu : u < 6) (hS : ∀ t, t < T → 1 ≤ oS (tb t) ∧ oS (tb t) ≤ 24) : ∀ (c t : Nat) (l : List Nat), t + c = T → LI T tb sy u (24 * t) l → LI T tb sy u (24 * T) (itr (lay2 tb sy (gOf u)) t c l) := by
  intro c
  induction c with
  | zero => intro t l ht h; rw [itr_0]; exact LI_p h (by omega)
  | succ c ih =>
    intro t l ht h
    rw [itr_s]
    have hs := hS t (by omega)
    exact ih (t + 1) _ (by omega) (LI_2 hu (by omega) hs.2 (oS (tb t) - 1) 1 l (Nat.le_refl _) (by omega) (LI_p h (by omega)))
theorem LI_0 (hS : ∀ t, t < T → 1 ≤ oS (tb t) ∧ oS (tb t) ≤ 24) : ∀ (c u : Nat) (l : List Nat), u + c = 6 → LI T tb sy u 0 l → LI T tb sy 6 0 (itr (lay1 T tb sy) u c l) := by
  intro c
  induction c with
  | zero => intro u l hu h; rw [itr_0, show (6 : Nat) = u by omega]; exact h
  | succ c ih =>
    intro u l hu h
    rw [itr_s]
    exact ih (u + 1) _ (by omega) (LI_u (LI_1 (by omega) hS T 0 l (by omega) h))
theorem LI_lay (hS : ∀ t, t < T → 1 ≤ oS (tb t) ∧ oS (tb t) ≤ 24) : LI T tb sy 6 0 (layL T tb sy) := LI_0 hS 6 0 [] rfl ⟨List.Pairwise.nil, fun x hx => nomatch hx⟩
end LIL
section CLW
variable {F : Nat} {c : px_CT} {sk : Nat → Nat × Nat × Nat} {L : Nat} {own : Nat → Nat × Nat} {fs : px_FS} {s : px_TK} {xs : px_NL} {ST rn : Nat → Bool} {ll sl : List Nat} {th : Nat → Bool} {rc : Bool} {R rn0 : Nat → Bool} {C B : Nat → Nat} {tO : Nat → Nat}
/-- what stands where after the class's layout -/
def LAD (sk : Nat → Nat × Nat × Nat) (L : Nat) (own : Nat → Nat × Nat) (τ : px_TT) (fs : px_FS) (s : px_TK) (xs : px_NL) (ST rn : Nat → Bool) (ll sl : List Nat) (C B : Nat → Nat) (cpf : List Nat) (tO : Nat → Nat) (th : Nat → Bool) (NA : Nat → Int64) (pp : Nat) (ad : Nat → Nat) (fe3 tp sp fp0 fp1 fp2 bg0 bg1 bg2 : Nat) : Prop := LAc sk L own τ fs s xs ST rn ll C B cpf tO pp ad ∧ COr τ ll ∧ (SLc s.2.2.1.length (tB fs s.2.2.1) xs τ sl ∧ SLI s.2.2.1.length (tB fs s.2.2.1) sl) ∧ ((∀ j, j < 3 → eI τ 1703 j = bI (th j)) ∧ eI τ 1703 3 = bI (ll.any (thr1 (tB fs s.2.2.1)))) ∧ (∀ j, j < xs.length → fJ τ (pN τ 149 j) 14 = NA j) ∧ (∀ x, x ∈ ll → fJ τ (152 + x) 11 = lN (ad x)) ∧ (0 < sl.length → fJ τ 1700 13 = lN sp) ∧ fJ τ 1700 17 = lN tp ∧ fJ τ 1700 18 = lN fe3 ∧ (eJ τ 1704 0 = lN fp0 ∧ eJ τ 1704 1 = lN fp1 ∧ eJ τ 1704 2 = lN fp2) ∧ (eJ τ 1705 0 = lN bg0 ∧ eJ τ 1705 1 = lN bg1 ∧ eJ τ 1705 2 = lN bg2)
theorem STr_ll {τ : px_TT} (h : TKe sk L own τ fs s xs ST rn) (hr : STr fs s rc R ST) (hll : ll = layL s.2.2.1.length (tB fs s.2.2.1) (sta (tB fs s.2.2.1) s.2.1.1 rc R)) : llS2 s ST ll ∧ ll.Nodup ∧ (∀ x, x < 24 * s.2.2.1.length → ST x = true → x ∈ ll) ∧ srt (tB fs s.2.2.1) ll := by
  have hT := BK_T (s := s) h.2.2.2.2.1.1
  have hob : ∀ t, t < s.2.2.1.length → ∃ m, eObj (tB fs s.2.2.1 t) m = 0 := fun t ht => by
    obtain ⟨q, _, _, _, _, he, _⟩ := TKe_ob h ht
    exact ⟨_, he⟩
  have hS : ∀ t, t < s.2.2.1.length → 1 ≤ oS (tB fs s.2.2.1 t) ∧ oS (tB fs s.2.2.1 t) ≤ 24 := fun t ht => by obtain ⟨m, hm⟩ := hob t ht; exact (eObj_0 hm).1.1.2.1
  have hLI := LI_lay (T := s.2.2.1.length) (tb := tB fs s.2.2.1) (sy := sta (tB fs s.2.2.1) s.2.1.1 rc R) hS
  rw [← hll] at hLI
  refine ⟨⟨LI_len hT hLI, fun x hx => ?_⟩, hLI.1, fun x hx hs => ?_, by rw [hll]; exact srt_lay (fun t ht => (hS t ht).2)⟩
  · obtain ⟨x1, x2, x3, x4⟩ := (hLI.2 x hx).1
    refine ⟨x1, ?_⟩
    rw [hr x x1]
    unfold sta at x4
    rw [show 24 * (x / 24) + x % 24 = x by omega] at x4
    unfold kpB
    rw [decide_eq_true x3, Bool.true_and]
    exact x4
  · have hs2 := hs
    rw [hr x hx] at hs2
    have hk : kpB (tB fs s.2.2.1 (x / 24)) (x % 24) = true := by rw [Bool.and_eq_true] at hs2; exact hs2.1
    have ht : x / 24 < s.2.2.1.length := by omega
    have hxS : x % 24 < oS (tB fs s.2.2.1 (x / 24)) := by unfold kpB at hk; rw [Bool.and_eq_true] at hk; exact of_decide_eq_true hk.1
    have hK : oK (tB fs s.2.2.1 (x / 24)) (x % 24) = true := by unfold kpB at hk; rw [Bool.and_eq_true] at hk; exact hk.2
    have h1 : 1 ≤ x % 24 := by
      rcases Nat.eq_zero_or_pos (x % 24) with e | e
      · obtain ⟨m, hm⟩ := hob _ ht
        have h0 := (eObj_g hm).1
        rw [e] at hK
        have := (of_decide_eq_true hK).1
        rw [h0] at this
        omega
      · exact e
    have hm := llS_lay (T := s.2.2.1.length) (tb := tB fs s.2.2.1) (sy := sta (tB fs s.2.2.1) s.2.1.1 rc R) (x / 24) (x % 24) ht h1 hxS (by
      unfold sta
      rw [show 24 * (x / 24) + x % 24 = x by omega]
      rw [hk, Bool.true_and] at hs2
      rw [hK, Bool.true_and]
      exact hs2)
    rw [show 24 * (x / 24) + x % 24 = x by omega, ← hll] at hm
    exact hm
theorem k_lay {τ : px_TT} {fe0 bg0 : Nat} {G0 : px_PG} {fe1 mem1 bg1 : Nat} {G1 : px_PG} {fe2 mem2 bg2 : Nat} {G4 G5 G2 : px_PG} {sp : Nat} {G3 CM : px_PG} {fe3 : Nat} (hF : 65536 < F) (hc : KT c) (hsum : off fs fs.length ≤ 32768) (hr : STr fs s rc R ST) (hW : WP s.2.2.1.length (tB fs s.2.2.1) s.2.1.1 xs) (hN : SLN s.2.2.1.length (tB fs s.2.2.1)) (hcm : AL cmP xs) (hcq : AL cmQ xs) (hg : AL (fun x => x.2.1 = 4 → 1 ≤ x.2.2.2.1 ∧ x.2.2.2.1 ≤ 4) xs) (hrn : ∀ i, rn i = (!rc || rn0 i)) (hod : ∀ d, d ∈ s.1.2.2.1 → d < xs.length) (hoT : ∀ d, stN xs d = 2 → d ∈ s.1.2.2.1) (hll : ll = layL s.2.2.1.length (tB fs s.2.2.1) (sta (tB fs s.2.2.1) s.2.1.1 rc R)) (hsl : sl = slL s.2.2.1.length (tB fs s.2.2.1) s.2.1.1 xs (sta (tB fs s.2.2.1) s.2.1.1 rc R)) (hth : th = thS (tB fs s.2.2.1) ll xs s.1.2.2.1 rc rn0 sl.length) (hrel : CBR C B (cAd fs s.2.2.1 (tB fs s.2.2.1)) tO (tB fs s.2.2.1) ll) (hL : LYe B tO (tB fs s.2.2.1) ll xs s.1.2.2.1 sl.length rc rn0 th fe0 bg0 G0 fe1 mem1 bg1 G1 fe2 mem2 bg2 G4 G5 G2 sp G3 CM fe3) (h : TKe sk L own τ fs s xs ST rn) (hz : Z15 τ xs) (hb : CB τ C) : ∃ τ' cpf, f_Layout_lay F c 1700 (cH sk L τ) = some ((), cH sk L τ') ∧ LAD sk L own τ' fs s xs ST rn ll sl C B cpf tO th (naF (ownV B (pf0 B tO (tB fs s.2.2.1) ll) tO (tB fs s.2.2.1) s.2.1.1 (sta (tB fs s.2.2.1) s.2.1.1 rc R) G1.1 G3.2.1) (ownK G0.1 bg2 (sp + 8 * sl.length - bg2) (CM.2.2.getD CM.1) (CM.1 - bg2)) CM.2.1 xs) G1.1 G3.2.1 fe3 (tpN bg2 (ll.foldl (ft1 (tB fs s.2.2.1) G3.2.1) (false, 0, 1, 0))) sp (upN fe0 16) (upN fe1 16) (upN fe2 16) bg0 bg1 bg2 ∧ (eJ τ' 1707 0 = lN (G0.1 - bg0) ∧ eJ τ' 1707 1 = lN (G1.1 + psz B (pf0 B tO (tB fs s.2.2.1) ll) - bg1) ∧ eJ τ' 1707 2 = lN (CM.1 - bg2)) ∧ frLy τ τ' := by
  have hk := STr_k hr
  obtain ⟨hl, hnd, hall, hsr⟩ := STr_ll h hr hll
  have hok := hW.2.1
  obtain ⟨τ1, a1, a2, a3, a4⟩ := k_gather (F := F) (c := c) hF hc hsum h hr hb
  rw [← hll] at a2 a3
  obtain ⟨cpf, hcpf⟩ : ∃ cpf, cpf = ll.foldl (sC C (tB fs s.2.2.1) (cAd fs s.2.2.1 (tB fs s.2.2.1))) [] := ⟨_, rfl⟩
  rw [← hcpf] at a3
  have h1 := TKe_Ly h a4.1
  have hb1 := CB_Ly hb a4.1
  have hz1 : Z15 τ1 xs := fun i hi => by
    have z2 := (CLm_at h.2.2.2.1.2.1 (List.getElem?_eq_getElem hi)).2.1
    have hge := (h.2.2.2.1.1 149 i _ (Or.inr (Or.inr rfl)) z2).1
    have eP : pN τ1 149 i = pN τ 149 i := by unfold pN; rw [a4.1.2.2.2.2.2.2.2 149 (by decide)]
    rw [eP, a4.2 _ _ hge, a4.2 _ _ hge]
    exact hz i hi
  obtain ⟨τ2, b1, b2, b3⟩ := k_findSlots (F := F) (c := c) hr hF hW hN h1 hz1
  rw [← hsl] at b2
  have h2 := b2.1
  have ho2 := COr_Sl a2 b3
  have hp2 := CPl_Sl a3 b3
  have hb2 := CB_Ly hb1 b3.1
  have hns := hN _ b2.2.2
  obtain ⟨τ3, c1, c2, c3, c4, c5, ⟨c6, c7, c8, c9⟩, c10⟩ := k_findSegments (F := F) (c := c) (on := rc) (rn0 := rn0) (ns := sl.length) hF hc hk hl hok hrn h2 ho2 b2.2.1.1 (by omega)
  have h3 := TKe_Ly h2 c10
  have ho3 : COr τ3 ll := COr_fx ho2 (c6 1700 11) (c9 1701)
  have hp3 : CPl τ3 C cpf := CPl_fx hp2 (c6 1697 3) (c6 1697 4) (c8 1698 (by decide)) (c8 1699 (by decide))
  have hb3 := CB_Ly hb2 c10
  have hT : cpf.map (st C) = (pf0 B tO (tB fs s.2.2.1) ll).map (st B) := by
    rw [hcpf]
    exact pool_T (fun x hx hs => ⟨(hrel x hx hs).1, (hrel x hx hs).2.1, (hrel x hx hs).2.2.1⟩)
  have hpzE := psz_T hT
  have hpz1 := psz_le cpf hp3.2.2.1.2
  have hpz2 := stL_len hp3.2.2.1
  obtain ⟨q0, q1, q2, q3, q4, q5, q6, q7, q8, q9, q10, q11, q12, q13, q14, q15, q16⟩ := hL
  obtain ⟨τ4, d1, d2, d3, d4, d5⟩ := k_layText (F := F) (c := c) (τ := τ3) (th := th) (on := rc) (rn0 := rn0) (ns := sl.length) (pz := psz B (pf0 B tO (tB fs s.2.2.1) ll)) (thr := ll.any (thr1 (tB fs s.2.2.1))) (ad1 := psF B (pf0 B tO (tB fs s.2.2.1) ll) tO (tB fs s.2.2.1) G1.1 G1.2.1) hF hc hk hl hnd hsr hok (cmOK_of hcm) hcq hrn hod h3 ho3 (fun j hj => by rw [hth]; exact c2 j hj) c3 (by rw [c6]; exact b2.2.1.1) hns (by rw [← hpzE]; exact hp3.2.1) (by rw [← hpzE]; omega) (fun x hx hs => by unfold psF; rw [if_neg (by rw [hs]; decide)]) q0 q1 q2 q3 q4 q5 q6 q7 q8 q9 q10 q11 q12 q13 q14 q15 q16
  have fl4 := frJE_Ly d5 JX_Ly EX4_Ly
  have h4 := TKe_Ly h3 fl4
  have ho4 : COr τ4 ll := COr_fx ho3 (d5.1 1700 11) (d5.2.2.2.2.2 1701)
  have hA4 : LAc sk L own τ4 fs s xs ST rn ll C B cpf tO G1.1 G3.2.1 := ⟨h4, ⟨hk, hl, hall⟩, CB_Ly hb3 fl4, CPl_fx hp3 (d5.1 1697 3) (d5.1 1697 4) (d5.2.2.2.1 1698) (d5.2.2.2.1 1699), d3.2.2.2.2.1, by omega, d2, hT, hrel⟩
  obtain ⟨τ5, e1, e2, e3⟩ := k_ly_18 (F := F) (c := c) hF ll.length 0 F τ4 (Nat.zero_add _) (by have := hl.1; omega) hA4 ho4 (fun x hx => by rw [List.take_zero] at hx; exact absurd hx List.not_mem_nil)
  have hA5 := LAc_J hA4 e3 (fun a k w => Or.inr (Or.inl w))
  have hn5 : LYn τ5 G0.1 bg2 (sp + 8 * sl.length - bg2) (CM.2.2.getD CM.1) (CM.1 - bg2) := ⟨by rw [e3.2.1 _ _ (fun w => by unfold J18 at w; omega)]; exact d3.2.2.2.1, by rw [e3.2.1 _ _ (fun w => by unfold J18 at w; omega)]; exact d3.2.2.1, by rw [e3.2.2.2.2.1 _ _ (fun w => w)]; exact d3.2.2.2.2.2.2.2.2.1.2.1, by rw [e3.2.2.2.2.1 _ _ (fun w => w)]; exact d3.2.2.2.2.2.2.2.2.1.2.2.1, by rw [e3.2.2.2.2.1 _ _ (fun w => w)]; exact d3.2.2.2.2.2.2.2.2.1.2.2.2⟩
  have eP5 : ∀ n, pN τ5 149 n = pN τ4 149 n := fun n => by unfold pN; rw [e3.2.2.2.2.2]
  have hge5 : ∀ n, n < xs.length → 1815 ≤ pN τ4 149 n := fun n hn => (h4.2.2.2.1.1 149 n _ (Or.inr (Or.inr rfl)) (CLm_at h4.2.2.2.1.2.1 (List.getElem?_eq_getElem hn)).2.1).1
  obtain ⟨τ6, g1, g2, g3⟩ := k_ly_60 (F := F) (c := c) (on := rc) (R := R) (na := CM.2.1) hF hr hW hg (fun i hi => by
    rw [q15, pc_no (by
      unfold cB
      rw [hrn i] at hi
      rw [hi, Bool.and_false]
      decide)]) xs.length 0 F τ5 (Nat.zero_add _) (by have := h4.2.2.2.1.2.1.1.2.2.2.1; rw [List.length_map] at this; omega) hA5 hn5 (fun n _ hn h2n hrn2 => by
    have := hge5 n hn
    rw [eP5, e3.2.1 _ _ (fun w => by unfold J18 at w; omega)]
    refine d3.2.2.2.2.2.2.2.2.2 n (hoT n h2n) ?_
    unfold cB
    rw [← hrn n, hrn2, decide_eq_true h2n]
    rfl) (fun j hj => absurd hj (by omega))
  have f46 : frJE (fun a k => J18 (tB fs s.2.2.1) a k ∨ J60 a k) E0 τ4 τ6 := frJE_trans (frJE_mono e3 (fun _ _ w => Or.inl w) (fun _ _ w => w)) (frJE_mono g3 (fun _ _ w => Or.inr w) (fun _ _ w => w))
  have nJ : ∀ {a k : Nat}, ¬ (152 ≤ a ∧ a < 1688) → a < 1815 → fJ τ6 a k = fJ τ4 a k := fun h1 h2 => f46.2.1 _ _ (fun w => by unfold J18 J60 at w; omega)
  have nE : ∀ a i, eJ τ6 a i = eJ τ4 a i := fun a i => f46.2.2.2.2.1 a i (fun w => w)
  have hA6 := LAc_J hA5 g3 (fun a k w => Or.inr (Or.inr w))
  refine ⟨τ6, cpf, ?_, ⟨hA6, COr_fx ho4 (f46.1 1700 11) (f46.2.2.2.2.2 1701), ⟨?_, b2.2.2⟩, ⟨fun j hj => ?_, ?_⟩, g2, fun x hx => ?_, fun w => ?_, ?_, ?_, ⟨?_, ?_, ?_⟩, ⟨?_, ?_, ?_⟩⟩, ⟨?_, ?_, ?_⟩, ?_⟩
  · unfold f_Layout_lay
    rw [c_o (G1700 h.1), bs, a1, xb_mk, c_o (G1700 h.1), bs, b1, xb_mk, c_o (G1700 h.1), bs, c1, xb_mk, c_o (G1700 h.1), bs, d1, xb_mk, e1]
    unfold f_Layout_lay_58
    exact g1
  · have eI6 : ∀ a k, fI τ6 a k = fI τ2 a k := fun a k => by rw [f46.1, d5.1, c6]
    have eP6 : ∀ n, pN τ6 149 n = pN τ2 149 n := fun n => by unfold pN; rw [f46.2.2.2.2.2, d5.2.2.2.2.2, c9]
    have eE6 : ∀ a, a ≠ 1703 → eI τ6 a = eI τ2 a := fun a ha => by rw [f46.2.2.2.1, d5.2.2.2.1, c8 a ha]
    obtain ⟨z1, z2, z3, z4⟩ := b2.2.1
    refine ⟨by rw [eI6]; exact z1, fun i z hz => by rw [eE6 _ (by decide)]; exact z2 i z hz, fun P hP t ht => by rw [eI6, eP6]; exact z3 P hP t ht, fun z hz hn => by rw [eE6 _ (by decide)]; exact z4 z hz hn⟩
  · rw [f46.2.2.2.1, d5.2.2.2.1, hth]; exact c2 j hj
  · rw [f46.2.2.2.1, d5.2.2.2.1]; exact c3
  · have hx1 := (hl.2 x hx).1
    have hT64 := BK_T (s := s) h.2.2.2.2.1.1
    by_cases cs : sS (tB fs s.2.2.1) x = true
    · rw [g3.2.1 _ _ (fun w => by unfold J60 at w; omega), e2 x hx cs]
      congr 1
      have k1 : G3.2.1 x = G2.2.1 x := by rw [q14]; exact pg_k (cnd_s cs (by decide)) ll _
      have k2 : G2.2.1 x = G5.2.1 x := by rw [q12]; exact pg_k (cnd_s cs (by decide)) ll _
      have k3 : G5.2.1 x = G4.2.1 x := by rw [q11]; exact pg_k (cnd_s cs (by decide)) ll _
      have k4 : G4.2.1 x = psF B (pf0 B tO (tB fs s.2.2.1) ll) tO (tB fs s.2.2.1) G1.1 G1.2.1 x := by rw [q10]; exact pg_k (cnd_s cs (by decide)) ll _
      rw [k1, k2, k3, k4]
      unfold psF
      rw [if_pos cs]
    · exact hA6.2.2.2.2.2.2.1 x hx (by cases hh : sS (tB fs s.2.2.1) x with | false => rfl | true => exact absurd hh cs)
  · rw [nJ (by omega) (by omega)]; exact d3.1 w
  · rw [nJ (by omega) (by omega)]; exact d3.2.1
  · rw [nJ (by omega) (by omega)]; exact d3.2.2.2.2.2.1
  · rw [nE]; exact d3.2.2.2.2.2.2.1.1
  · rw [nE]; exact d3.2.2.2.2.2.2.2.1.1
  · rw [nE]; exact d3.2.2.2.2.2.2.2.2.1.1
  · rw [nE]; exact d3.2.2.2.2.2.2.1.2.1
  · rw [nE]; exact d3.2.2.2.2.2.2.2.1.2.1
  · rw [nE]; exact d3.2.2.2.2.2.2.2.2.1.2.1
  · rw [nE]; exact d3.2.2.2.2.2.2.1.2.2.2
  · rw [nE]; exact d3.2.2.2.2.2.2.2.1.2.2.2
  · rw [nE]; exact d3.2.2.2.2.2.2.2.2.1.2.2.2
  · exact frLy_trans a4.1 (frLy_trans b3.1 (frLy_trans c10 (frLy_trans fl4 (frJE_Ly f46 (fun a k w => by unfold J18 J60 at w; omega) (fun a i w => w.elim)))))
end CLW
end
section
/-! too large: the class's answer 3 -/
theorem pg_same {tb : Nat → Nat → Nat} {g : Nat} : ∀ (l : List Nat) (s : px_PG), (∀ x, x ∈ l → cnd tb g x = true → zS tb x = 0) → (l.foldl (pg1 tb g false) s).1 = s.1 := by
  intro l
  induction l with
  | nil => intro s _; rfl
  | cons x l ih =>
    intro s hz
    rw [List.foldl_cons, ih _ (fun y hy => hz y (List.mem_cons_of_mem _ hy))]
    by_cases c : cnd tb g x = true
    · have e : (pg1 tb g false s x).1 = pgA tb false s.1 x + zS tb x := by unfold pg1; rw [if_pos c]
      rw [e, hz x (List.mem_cons_self) c]
      unfold pgA
      rw [if_neg (fun q => by cases q.1)]
      rfl
    · rw [pg1_n (by cases hh : cnd tb g x with | false => rfl | true => exact absurd hh c)]
theorem pc_same {xs : px_NL} {on : Bool} {rn : Nat → Bool} : ∀ (l : List Nat) (s : px_PG), (∀ n, n ∈ l → cB xs on rn n = true → cmZ xs n = 0) → (l.foldl (pc1 xs on rn false) s).1 = s.1 := by
  intro l
  induction l with
  | nil => intro s _; rfl
  | cons x l ih =>
    intro s hz
    rw [List.foldl_cons, ih _ (fun y hy => hz y (List.mem_cons_of_mem _ hy))]
    by_cases c : cB xs on rn x = true
    · have e : (pc1 xs on rn false s x).1 = pcA xs false s.1 x + cmZ xs x := by unfold pc1; rw [if_pos c]
      rw [e, hz x (List.mem_cons_self) c]
      unfold pcA
      rw [if_neg (by decide)]
      rfl
    · rw [pc1_n c]
theorem pf_no {B : Nat → Nat} {tO : Nat → Nat} {tb : Nat → Nat → Nat} {nd : List (List Nat)} : ∀ (l : List Nat) (pf : List Nat), (∀ x, x ∈ l → sS tb x = false) → l.foldl (s1F B nd tO tb) pf = pf := by
  intro l
  induction l with
  | nil => intro pf _; rfl
  | cons x l ih =>
    intro pf h
    rw [List.foldl_cons]
    have e : s1F B nd tO tb pf x = pf := by unfold s1F; rw [if_neg (by rw [h x List.mem_cons_self]; decide)]
    rw [e]
    exact ih pf (fun y hy => h y (List.mem_cons_of_mem _ hy))
theorem thx_z {tb : Nat → Nat → Nat} {ll : List Nat} {j : Nat} (h : ll.any (thx tb j) = false) {x : Nat} (hx : x ∈ ll) (hg : sgO (oG (tb (x / 24)) (x % 24)) = j) : zS tb x = 0 := by
  rcases Nat.eq_zero_or_pos (zS tb x) with e | e
  · exact e
  · have : ll.any (thx tb j) = true := List.any_eq_true.mpr ⟨x, hx, by unfold thx; rw [decide_eq_true hg, decide_eq_true e]; rfl⟩
    rw [h] at this
    cases this
theorem cnd_og {tb : Nat → Nat → Nat} {g x : Nat} (h : cnd tb g x = true) : oG (tb (x / 24)) (x % 24) = g := by
  unfold cnd at h
  rw [Bool.and_eq_true] at h
  exact of_decide_eq_true h.1
section LYB
variable {tb : Nat → Nat → Nat} {xs : px_NL} {ll od : List Nat} {ns : Nat} {th : Nat → Bool} {on : Bool} {rn : Nat → Bool} {B tO : Nat → Nat} {fe0 bg0 : Nat} {G0 : px_PG} {fe1 mem1 bg1 : Nat} {G1 : px_PG} {fe2 mem2 bg2 : Nat} {G4 G5 G2 : px_PG} {sp : Nat} {G3 CM : px_PG} {fe3 : Nat}
theorem LYe_z (hth : th = thS tb ll xs od on rn ns) (hL : LYe B tO tb ll xs od ns on rn th fe0 bg0 G0 fe1 mem1 bg1 G1 fe2 mem2 bg2 G4 G5 G2 sp G3 CM fe3) : (th 0 = false → G0.1 - bg0 = 0) ∧ (th 1 = false → G1.1 + psz B (pf0 B tO tb ll) - bg1 = 0) ∧ (th 2 = false → CM.1 - bg2 = 0) := by
  obtain ⟨q0, q1, q2, q3, q4, q5, q6, q7, q8, q9, q10, q11, q12, q13, q14, q15, q16⟩ := hL
  refine ⟨fun e => ?_, fun e => ?_, fun e => ?_⟩
  · have e2 := e
    rw [hth] at e2
    unfold thS at e2
    rw [Bool.or_eq_false_iff] at e2
    have := pg_same (tb := tb) (g := 0) ll (bg0, (fun _ => 0), none) (fun x hx hc => thx_z e2.1 hx (by rw [cnd_og hc]; rfl))
    rw [q2, e, this]
    exact Nat.sub_self bg0
  · have e2 := e
    rw [hth] at e2
    unfold thS at e2
    rw [Bool.or_eq_false_iff] at e2
    have hs : ∀ x, x ∈ ll → sS tb x = false := fun x hx => by
      cases hh : sS tb x with
      | false => rfl
      | true =>
        have h1 := sS_z hh
        have h2 := thx_z e2.1 hx (by rw [sS_g hh]; rfl)
        omega
    have := pg_same (tb := tb) (g := 1) ll (bg1, G0.2.1, none) (fun x hx hc => thx_z e2.1 hx (by rw [cnd_og hc]; rfl))
    have e0 : pf0 B tO tb ll = [] := by unfold pf0; exact pf_no ll [] hs
    rw [q6, e, this, e0]
    exact Nat.sub_self bg1
  · have e2 := e
    rw [hth] at e2
    unfold thS at e2
    rw [Bool.or_eq_false_iff, decide_eq_true (rfl : (2 : Nat) = 2), Bool.true_and, Bool.or_eq_false_iff] at e2
    have hn0 : ns = 0 := by have := of_decide_eq_false e2.2.2; omega
    have s4 := pg_same (tb := tb) (g := 4) ll (bg2, psF B (pf0 B tO tb ll) tO tb G1.1 G1.2.1, none) (fun x hx hc => thx_z e2.1 hx (by rw [cnd_og hc]; rfl))
    have s2 := pg_same (tb := tb) (g := 2) ll (G4.1, G5.2.1, none) (fun x hx hc => thx_z e2.1 hx (by rw [cnd_og hc]; rfl))
    have s3 := pg_same (tb := tb) (g := 3) ll (sp + 8 * ns, G2.2.1, none) (fun x hx hc => thx_z e2.1 hx (by rw [cnd_og hc]; rfl))
    have sc := pc_same (xs := xs) (on := on) (rn := rn) od (G3.1, (fun _ => 0), G3.2.2) (fun n hn hc => by
      rcases Nat.eq_zero_or_pos (cmZ xs n) with z | z
      · exact z
      · have : od.any (thc xs on rn) = true := List.any_eq_true.mpr ⟨n, hn, by unfold thc; rw [hc, decide_eq_true z]; rfl⟩
        rw [e2.2.1] at this
        cases this)
    rw [← e, ← q10] at s4
    rw [← e, ← q12] at s2
    rw [← e, ← q14] at s3
    rw [← e, ← q15] at sc
    have s4 : G4.1 = bg2 := s4
    have s2 : G2.1 = G4.1 := s2
    have s3 : G3.1 = sp + 8 * ns := s3
    have sc : CM.1 = G3.1 := sc
    rw [hn0, if_neg (by decide)] at q13
    omega
theorem LYe_b (hZ : ∀ x, x ∈ ll → zS tb x ≤ 16384 ∧ alS tb x ≤ 4096) (hl1 : ll.length ≤ 1536) (hns : ns ≤ 2800) (hpz : psz B (pf0 B tO tb ll) ≤ 2 ^ 30) (hcm : cmOK xs) (hod : ∀ d, d ∈ od → d < xs.length) (hol : od.length ≤ 4128) (hL : LYe B tO tb ll xs od ns on rn th fe0 bg0 G0 fe1 mem1 bg1 G1 fe2 mem2 bg2 G4 G5 G2 sp G3 CM fe3) : (G0.1 < 2 ^ 40 ∧ G1.1 + psz B (pf0 B tO tb ll) < 2 ^ 40 ∧ CM.1 < 2 ^ 40 ∧ fe3 < 2 ^ 40) ∧ (upN fe0 16 < 2 ^ 40 ∧ upN fe1 16 < 2 ^ 40 ∧ upN fe2 16 < 2 ^ 40) ∧ (bg0 ≤ G0.1 ∧ bg1 ≤ G1.1 ∧ bg2 ≤ sp ∧ sp < 2 ^ 40) := by
  obtain ⟨q0, q1, q2, q3, q4, q5, q6, q7, q8, q9, q10, q11, q12, q13, q14, q15, q16⟩ := hL
  have h6 := ar_6 (K := 0) hl1
  have hsg : sgN th 3 ≤ 3 := by
    show (((0 + (if th 0 = true then 1 else 0)) + (if th 1 = true then 1 else 0)) + (if th 2 = true then 1 else 0)) ≤ 3
    split <;> split <;> split <;> omega
  have hfe0 : fe0 ≤ 288 := by rw [q0]; split <;> omega
  have u0 := upN_le (v := fe0) (a := 16) (by decide)
  have v0 := bgN_lt (mem := 4194304) (fp := upN fe0 16) (th := th 0)
  rw [← q1] at v0
  have m0 := pgs_m (g := 0) (th := th 0) ll (bg0, (fun _ => 0), none) hZ
  rw [← q2] at m0
  have m0 : bg0 ≤ G0.1 ∧ G0.1 ≤ bg0 + ll.length * 20480 := m0
  have hfe1 : fe1 < 2 ^ 34 := by rw [q3]; split <;> omega
  have hmem1 : mem1 < 2 ^ 34 := by rw [q4]; split <;> omega
  have u1 := upN_le (v := fe1) (a := 16) (by decide)
  have v1 := bgN_lt (mem := mem1) (fp := upN fe1 16) (th := th 1)
  rw [← q5] at v1
  have m1 := pgs_m (g := 1) (th := th 1) ll (bg1, G0.2.1, none) hZ
  rw [← q6] at m1
  have m1 : bg1 ≤ G1.1 ∧ G1.1 ≤ bg1 + ll.length * 20480 := m1
  have hfe2 : fe2 < 2 ^ 35 := by rw [q7]; split <;> omega
  have hmem2 : mem2 < 2 ^ 35 := by rw [q8]; split <;> omega
  have u2 := upN_le (v := fe2) (a := 16) (by decide)
  have v2 := bgN_lt (mem := mem2) (fp := upN fe2 16) (th := th 2)
  rw [← q9] at v2
  have m4 := pgs_m (g := 4) (th := th 2) ll (bg2, psF B (pf0 B tO tb ll) tO tb G1.1 G1.2.1, none) hZ
  rw [← q10] at m4
  have m4 : bg2 ≤ G4.1 ∧ G4.1 ≤ bg2 + ll.length * 20480 := m4
  have m2 := pgs_m (g := 2) (th := th 2) ll (G4.1, G5.2.1, none) hZ
  rw [← q12] at m2
  have m2 : G4.1 ≤ G2.1 ∧ G2.1 ≤ G4.1 + ll.length * 20480 := m2
  have u8 := upN_le (v := G2.1) (a := 8) (by decide)
  have hsp : G2.1 ≤ sp ∧ sp < G2.1 + 8 := by rw [q13]; split <;> omega
  have m3 := pgs_m (g := 3) (th := th 2) ll (sp + 8 * ns, G2.2.1, none) hZ
  rw [← q14] at m3
  have m3 : sp + 8 * ns ≤ G3.1 ∧ G3.1 ≤ sp + 8 * ns + ll.length * 20480 := m3
  have mc := pcs_m (on := on) (rn := rn) (th := th 2) hcm od (G3.1, (fun _ => 0), G3.2.2) hod
  rw [← q15] at mc
  have mc : G3.1 ≤ CM.1 ∧ CM.1 ≤ G3.1 + od.length * 20480 := mc
  have ho : od.length * 20480 ≤ 4128 * 20480 := Nat.mul_le_mul_right _ hol
  have hfe3 : fe3 < 2 ^ 39 := by rw [q16]; split <;> omega
  refine ⟨⟨by omega, by omega, by omega, by omega⟩, ⟨by omega, by omega, by omega⟩, by omega, by omega, by omega, by omega⟩
end LYB
section CBG
variable {F : Nat} {c : px_CT} {sk : Nat → Nat × Nat × Nat} {L : Nat} {τ : px_TT}
theorem k_tl_2 {mb : Nat → Nat} {fe : Nat} (hS : GS sk L) (hR : GR τ) (h7 : ∀ j, j < 3 → eJ τ 1707 j = lN (mb j) ∧ mb j < 2 ^ 40) (h18 : fJ τ 1700 18 = lN fe) (hfe : fe < 2 ^ 40) : ∀ (d j f : Nat), j + d = 3 → d < f → f_Layout_isTooLarge_2 F c f 1700 (nI j) (cH sk L τ) = some (bI (ex1 (fun i => decide (65536 < mb i)) j d || decide (65536 < fe)), cH sk L τ) := by
  intro d
  induction d with
  | zero =>
    intro j f hj hf
    obtain ⟨f, rfl⟩ : ∃ x, f = x + 1 := ⟨f - 1, by omega⟩
    unfold f_Layout_isTooLarge_2 f_Layout_isTooLarge_28 f_Layout_isTooLarge_44
    rw [if_pos (nI_le (by omega) (by omega)), C2g18 (G1700 hS), bs, h18, show (65536 : Int64) = lN 65536 from rfl]
    show _ = some (bI (false || decide (65536 < fe)), _)
    rw [Bool.false_or]
    by_cases c1 : fe ≤ 65536
    · rw [if_pos ((pk_lLE (by omega) (by decide)).mpr c1), xz_0, decide_eq_false (by omega)]
    · rw [if_neg (fun q => c1 ((pk_lLE (by omega) (by decide)).mp q)), xz_1, decide_eq_true (by omega)]
  | succ d ih =>
    intro j f hj hf
    obtain ⟨f, rfl⟩ : ∃ x, f = x + 1 := ⟨f - 1, by omega⟩
    have h7j := h7 j (by omega)
    unfold f_Layout_isTooLarge_2 f_Layout_isTooLarge_20
    rw [if_neg (nI_ge (by omega) (by omega)), C2r8 (G1700 hS) (GR_r (v := 1707) hR (by decide)), bs, c_aJ (G1707 hS) (by decide) (by omega), bs, h7j.1, show (65536 : Int64) = lN 65536 from rfl, nI_add]
    show _ = some (bI (ex1 (fun i => decide (65536 < mb i)) j (d + 1) || decide (65536 < fe)), _)
    have e : ex1 (fun i => decide (65536 < mb i)) j (d + 1) = (decide (65536 < mb j) || ex1 (fun i => decide (65536 < mb i)) (j + 1) d) := ex1_s
    rw [e]
    by_cases c1 : mb j ≤ 65536
    · rw [if_pos ((pk_lLE (by omega) (by decide)).mpr c1), ih (j + 1) f (by omega) (by omega), decide_eq_false (show ¬ 65536 < mb j by omega), Bool.false_or]
    · rw [if_neg (fun q => c1 ((pk_lLE (by omega) (by decide)).mp q)), decide_eq_true (show 65536 < mb j by omega)]
      rfl
theorem k_isTooLarge {th : Nat → Bool} {mb0 mb1 mb2 fe : Nat} (hF : 8 < F) (hS : GS sk L) (hR : GR τ) (e0 : eJ τ 1707 0 = lN mb0) (e1 : eJ τ 1707 1 = lN mb1) (e2 : eJ τ 1707 2 = lN mb2) (h18 : fJ τ 1700 18 = lN fe) (hb : mb0 < 2 ^ 40 ∧ mb1 < 2 ^ 40 ∧ mb2 < 2 ^ 40 ∧ fe < 2 ^ 40) (hz : (th 0 = false → mb0 = 0) ∧ (th 1 = false → mb1 = 0) ∧ (th 2 = false → mb2 = 0)) : f_Layout_isTooLarge F c 1700 (cH sk L τ) = some (bI (lyA th mb0 mb1 mb2 fe), cH sk L τ) := by
  have k := k_tl_2 (F := F) (c := c) (τ := τ) (mb := fun j => if j = 0 then mb0 else if j = 1 then mb1 else mb2) (fe := fe) hS hR (fun j hj => by
    rcases (show j = 0 ∨ j = 1 ∨ j = 2 by omega) with e | e | e
    · subst e; exact ⟨e0, hb.1⟩
    · subst e; exact ⟨e1, hb.2.1⟩
    · subst e; exact ⟨e2, hb.2.2.1⟩) h18 hb.2.2.2 3 0 F rfl (by omega)
  have a0 : decide (65536 < mb0) = (th 0 && decide (65536 < mb0)) := by
    cases e : th 0 with
    | false => rw [hz.1 e]; rfl
    | true => rw [Bool.true_and]
  have a1 : decide (65536 < mb1) = (th 1 && decide (65536 < mb1)) := by
    cases e : th 1 with
    | false => rw [hz.2.1 e]; rfl
    | true => rw [Bool.true_and]
  have a2 : decide (65536 < mb2) = (th 2 && decide (65536 < mb2)) := by
    cases e : th 2 with
    | false => rw [hz.2.2 e]; rfl
    | true => rw [Bool.true_and]
  unfold f_Layout_isTooLarge lyA
  rw [k, ← a0, ← a1, ← a2]
  show some (bI ((decide (65536 < mb0) || (decide (65536 < mb1) || (decide (65536 < mb2) || false))) || decide (65536 < fe)), _) = _
  rw [Bool.or_false, Bool.or_assoc, Bool.or_assoc, Bool.or_assoc]
end CBG
end
section
/-! the class's rows: whatever is written, they stay rows -/
def rowOK (sk : Nat → Nat × Nat × Nat) (L : Nat) (τ : px_TT) (r A n : Nat) : Prop := ob sk L 10 r ∧ ar sk L 0 n A ∧ n ≤ 65536 ∧ fN τ r 0 = some A ∧ (∃ z, z ≤ n ∧ fI τ r 1 = nI z) ∧ (∃ b, fI τ r 2 = bI b) ∧ ∀ k, isB (eI τ A k)
def frRw (r A : Nat) (τ τ' : px_TT) : Prop := (∀ a k, (a ≠ r ∨ (k ≠ 1 ∧ k ≠ 2)) → fI τ' a k = fI τ a k) ∧ (∀ a k, fJ τ' a k = fJ τ a k) ∧ (∀ a k, fN τ' a k = fN τ a k) ∧ (∀ a, a ≠ A → eI τ' a = eI τ a) ∧ (∀ a, eJ τ' a = eJ τ a) ∧ ∀ a, eN τ' a = eN τ a
theorem frRw_refl {r A : Nat} {τ : px_TT} : frRw r A τ τ := ⟨fun _ _ _ => rfl, fun _ _ => rfl, fun _ _ => rfl, fun _ _ => rfl, fun _ => rfl, fun _ => rfl⟩
theorem frRw_trans {r A : Nat} {τ τ1 τ2 : px_TT} (h : frRw r A τ τ1) (g : frRw r A τ1 τ2) : frRw r A τ τ2 := ⟨fun a k x => (g.1 a k x).trans (h.1 a k x), fun a k => (g.2.1 a k).trans (h.2.1 a k), fun a k => (g.2.2.1 a k).trans (h.2.2.1 a k), fun a x => (g.2.2.2.1 a x).trans (h.2.2.2.1 a x), fun a => (g.2.2.2.2.1 a).trans (h.2.2.2.2.1 a), fun a => (g.2.2.2.2.2 a).trans (h.2.2.2.2.2 a)⟩
theorem frRw_1 {r A : Nat} {τ : px_TT} {v : Int32} : frRw r A τ (tI τ r 1 v) := ⟨fun a k h => tI_ne (by omega), fun _ _ => rfl, fun _ _ => rfl, fun _ _ => rfl, fun _ => rfl, fun _ => rfl⟩
theorem frRw_2 {r A : Nat} {τ : px_TT} {v : Int32} : frRw r A τ (tI τ r 2 v) := ⟨fun a k h => tI_ne (by omega), fun _ _ => rfl, fun _ _ => rfl, fun _ _ => rfl, fun _ => rfl, fun _ => rfl⟩
theorem frRw_v {r A : Nat} {τ : px_TT} {g : Nat → Int32} : frRw r A τ (vI τ A g) := ⟨fun _ _ _ => rfl, fun _ _ => rfl, fun _ _ => rfl, fun a h => eI_v_ne h, fun _ => rfl, fun _ => rfl⟩
theorem GR_mx {τ τ' : px_TT} (h : GR τ) (hN : ∀ a k, a < 1726 → fN τ' a k = fN τ a k) (hI : ∀ a k, 10 ≤ a → a < 138 → k < 3 → fI τ' a k = fI τ a k) (h9 : eN τ' 9 = eN τ 9) (h151 : eN τ' 151 = eN τ 151) : GR τ' := by
  refine ⟨fun x hx => ?_, fun i hi => ?_, fun i hi => ?_⟩
  · have hlt : ∀ x, x ∈ grl → x.1 < 1726 := by decide
    rw [hN _ _ (hlt x hx)]
    exact h.1 x hx
  · have g := h.2.1 i hi
    rw [hN _ _ (by omega), hN _ _ (by omega), h9, hI _ _ (by omega) (by omega) (by omega), hI _ _ (by omega) (by omega) (by omega)]
    exact g
  · rw [h151]; exact h.2.2 i hi
theorem GR_Rw {r A : Nat} {τ τ' : px_TT} (h : GR τ) (f : frRw r A τ τ') (hr : r < 10 ∨ 138 ≤ r) : GR τ' := GR_mx h (fun a k _ => f.2.2.1 a k) (fun a k h1 h2 _ => f.1 a k (Or.inl (by omega))) (f.2.2.2.2.2 9) (f.2.2.2.2.2 151)
section CRW
variable {F : Nat} {c : px_CT} {sk : Nat → Nat × Nat × Nat} {L : Nat} {r A n : Nat}
theorem rowOK_1 {τ : px_TT} {z : Nat} (h : rowOK sk L τ r A n) (hz : z ≤ n) : rowOK sk L (tI τ r 1 (nI z)) r A n := by
  obtain ⟨h1, h2, h3, h4, h5, ⟨b, h6⟩, h7⟩ := h
  exact ⟨h1, h2, h3, h4, ⟨z, hz, tI_at⟩, ⟨b, by rw [tI_ne (Or.inr (by decide))]; exact h6⟩, h7⟩
theorem rowOK_2 {τ : px_TT} {b : Bool} (h : rowOK sk L τ r A n) : rowOK sk L (tI τ r 2 (bI b)) r A n := by
  obtain ⟨h1, h2, h3, h4, ⟨z, hz, h5⟩, h6, h7⟩ := h
  exact ⟨h1, h2, h3, h4, ⟨z, hz, by rw [tI_ne (Or.inr (by decide))]; exact h5⟩, ⟨b, tI_at⟩, h7⟩
theorem rowOK_v {τ : px_TT} {g : Nat → Int32} (h : rowOK sk L τ r A n) (hg : ∀ k, isB (g k)) : rowOK sk L (vI τ A g) r A n := by
  obtain ⟨h1, h2, h3, h4, h5, h6, h7⟩ := h
  exact ⟨h1, h2, h3, h4, h5, h6, fun k => by rw [vI_at]; exact hg k⟩
theorem upd_B {g : Nat → Int32} {i : Nat} {v : Int32} (h : ∀ k, isB (g k)) (hv : isB v) (k : Nat) : isB (upd g i v k) := by
  by_cases e : k = i
  · rw [e, pk_us]; exact hv
  · rw [pk_un e]; exact h k
theorem k_clearS {τ : px_TT} (h : rowOK sk L τ r A n) : ∃ τ', f_Row_clear F c r (cH sk L τ) = some ((), cH sk L τ') ∧ rowOK sk L τ' r A n ∧ frRw r A τ τ' := by
  refine ⟨tI (tI τ r 1 (nI 0)) r 2 (bI false), ?_, rowOK_2 (rowOK_1 h (Nat.zero_le _)), frRw_trans frRw_1 frRw_2⟩
  unfold f_Row_clear
  rw [C10p1 h.1, bs, show (nI 0 : Int32) = bI false from rfl, C10z2 h.1, bs]
theorem k_put_3S {v : Int64} {k : Nat} (hk : k < 2 ^ 31) : ∀ (d j f : Nat) (τ : px_TT), j + d = k → d < f → rowOK sk L τ r A n → ∃ τ', f_Row_put_3 F c f r (nI k) v (nI j) (cH sk L τ) = some ((), cH sk L τ') ∧ rowOK sk L τ' r A n ∧ frRw r A τ τ' := by
  intro d
  induction d with
  | zero =>
    intro j f τ hj hf h
    obtain ⟨f, rfl⟩ : ∃ x, f = x + 1 := ⟨f - 1, by omega⟩
    refine ⟨τ, ?_, h, frRw_refl⟩
    unfold f_Row_put_3 f_Row_put_63
    rw [if_pos (nI_le (by omega) (by omega))]
  | succ d ih =>
    intro j f τ hj hf h
    obtain ⟨f, rfl⟩ : ∃ x, f = x + 1 := ⟨f - 1, by omega⟩
    obtain ⟨z, hz, ez⟩ := h.2.2.2.2.1
    have hn := h.2.2.1
    unfold f_Row_put_3 f_Row_put_57
    rw [if_neg (nI_ge (by omega) (by omega)), C10g1 h.1, bs, C10r0 h.1 h.2.2.2.1, bs, c_l h.2.1 (by decide), bs, ez, nI_add]
    by_cases c1 : n ≤ z
    · obtain ⟨τ', g1, g2, g3⟩ := ih (j + 1) f (tI τ r 2 (bI true)) (by omega) (by omega) (rowOK_2 h)
      refine ⟨τ', ?_, g2, frRw_trans frRw_2 g3⟩
      rw [if_pos (nI_le c1 (by omega)), show (nI 1 : Int32) = bI true from rfl, C10z2 h.1, bs]
      exact g1
    · have h1 := rowOK_v (g := upd (eI τ A) z (((((v.toUInt64 >>> (((nI 8) * (nI j)).toInt64.toUInt64 &&& Int64.toUInt64 63)).toInt64).toInt32).toInt8.toInt32).toInt8.toInt32)) h (upd_B h.2.2.2.2.2.2 (isB_8 _))
      have h2 := rowOK_1 (z := z + 1) h1 (by omega)
      obtain ⟨τ', g1, g2, g3⟩ := ih (j + 1) f _ (by omega) (by omega) h2
      refine ⟨τ', ?_, g2, frRw_trans (frRw_trans frRw_v frRw_1) g3⟩
      rw [if_neg (nI_ge (by omega) (by omega)), bs, bs, c_sI h.2.1 (Or.inl rfl) (by omega) (by omega), bs, C10g1 h.1, bs]
      show ((xpI _ 10 1 r (fI τ r 1 + nI 1)).bind _) = _
      rw [ez, nI_add, C10p1 h.1, bs]
      exact g1
theorem k_putS {τ : px_TT} {v : Int64} {k : Nat} (hF : k < F) (hk : k < 2 ^ 31) (h : rowOK sk L τ r A n) : ∃ τ', f_Row_put F c r (nI k) v (cH sk L τ) = some ((), cH sk L τ') ∧ rowOK sk L τ' r A n ∧ frRw r A τ τ' := k_put_3S hk k 0 F τ (Nat.zero_add _) hF h
theorem k_set_3S {v : Int64} {k : Nat} {p : Int32} (hk : k < 2 ^ 31) : ∀ (d j f : Nat) (τ : px_TT), j + d = k → d < f → rowOK sk L τ r A n → ∃ τ', f_Row_set_3 F c f r p (nI k) v (nI j) (cH sk L τ) = some ((), cH sk L τ') ∧ rowOK sk L τ' r A n ∧ frRw r A τ τ' := by
  intro d
  induction d with
  | zero =>
    intro j f τ hj hf h
    obtain ⟨f, rfl⟩ : ∃ x, f = x + 1 := ⟨f - 1, by omega⟩
    refine ⟨τ, ?_, h, frRw_refl⟩
    unfold f_Row_set_3 f_Row_set_51
    rw [if_pos (nI_le (by omega) (by omega))]
  | succ d ih =>
    intro j f τ hj hf h
    obtain ⟨f, rfl⟩ : ∃ x, f = x + 1 := ⟨f - 1, by omega⟩
    obtain ⟨z, hz, ez⟩ := h.2.2.2.2.1
    have hn := h.2.2.1
    unfold f_Row_set_3 f_Row_set_45
    rw [if_neg (nI_ge (by omega) (by omega)), nI_add]
    by_cases c0 : p + nI j < 0
    · rw [if_pos c0]; exact ih (j + 1) f τ (by omega) (by omega) h
    · rw [if_neg c0, C10g1 h.1, bs, ez]
      obtain ⟨i, hi, ei⟩ := nI_of c0
      rw [ei]
      by_cases c1 : z ≤ i
      · rw [if_pos (nI_le c1 hi)]; exact ih (j + 1) f τ (by omega) (by omega) h
      · have h1 := rowOK_v (g := upd (eI τ A) i (((((v.toUInt64 >>> (((nI 8) * (nI j)).toInt64.toUInt64 &&& Int64.toUInt64 63)).toInt64).toInt32).toInt8.toInt32).toInt8.toInt32)) h (upd_B h.2.2.2.2.2.2 (isB_8 _))
        obtain ⟨τ', g1, g2, g3⟩ := ih (j + 1) f _ (by omega) (by omega) h1
        refine ⟨τ', ?_, g2, frRw_trans frRw_v g3⟩
        rw [if_neg (nI_ge (by omega) (by omega)), C10r0 h.1 h.2.2.2.1, bs, c_sI h.2.1 (Or.inl rfl) (by omega) (by omega), bs]
        exact g1
theorem k_setS {τ : px_TT} {v : Int64} {k : Nat} {p : Int32} (hF : k < F) (hk : k < 2 ^ 31) (h : rowOK sk L τ r A n) : ∃ τ', f_Row_set F c r p (nI k) v (cH sk L τ) = some ((), cH sk L τ') ∧ rowOK sk L τ' r A n ∧ frRw r A τ τ' := k_set_3S hk k 0 F τ (Nat.zero_add _) hF h
theorem k_fill3_10S {w : Int32} {e : Nat} (he : e ≤ n) : ∀ (d j f : Nat) (τ : px_TT), j + d = e → d < f → rowOK sk L τ r A n → ∃ τ', f_Arrays_fill_3_10 F c f A (nI e) w (nI j) (cH sk L τ) = some ((), cH sk L τ') ∧ rowOK sk L τ' r A n ∧ frRw r A τ τ' := by
  intro d
  induction d with
  | zero =>
    intro j f τ hj hf h
    have hn := h.2.2.1
    obtain ⟨f, rfl⟩ : ∃ x, f = x + 1 := ⟨f - 1, by omega⟩
    refine ⟨τ, ?_, h, frRw_refl⟩
    unfold f_Arrays_fill_3_10 f_Arrays_fill_3_27
    rw [if_pos (nI_le (by omega) (by omega))]
  | succ d ih =>
    intro j f τ hj hf h
    have hn := h.2.2.1
    obtain ⟨f, rfl⟩ : ∃ x, f = x + 1 := ⟨f - 1, by omega⟩
    obtain ⟨τ', g1, g2, g3⟩ := ih (j + 1) f _ (by omega) (by omega) (rowOK_v (g := upd (eI τ A) j w.toInt8.toInt32) h (upd_B h.2.2.2.2.2.2 (isB_8 _)))
    refine ⟨τ', ?_, g2, frRw_trans frRw_v g3⟩
    unfold f_Arrays_fill_3_10
    rw [if_neg (nI_ge (by omega) (by omega)), c_sI h.2.1 (Or.inl rfl) (by omega) (by omega), bs, nI_add]
    exact g1
theorem k_fillTo_16S {τ : px_TT} {e : Nat} {w : Int32} (hF : 65536 < F) (he : e < 2 ^ 62) (h : rowOK sk L τ r A n) : ∃ τ', f_Row_fillTo_16 F c r (lN e) w (cH sk L τ) = some ((), cH sk L τ') ∧ rowOK sk L τ' r A n ∧ frRw r A τ τ' := by
  obtain ⟨z, hz, ez⟩ := h.2.2.2.2.1
  have hn := h.2.2.1
  obtain ⟨m, hm⟩ : ∃ m, m = (if (nI n).toInt64 < lN e then (nI n).toInt64 else lN e).toInt32 := ⟨_, rfl⟩
  have hmq : ∃ q, q ≤ n ∧ m = nI q := by
    rw [nI_l (by omega)] at hm
    by_cases c2 : lN n < lN e
    · rw [if_pos c2, lN_i] at hm
      exact ⟨n, Nat.le_refl _, hm⟩
    · rw [if_neg c2, lN_i] at hm
      exact ⟨e, Nat.le_of_not_lt (fun q => c2 ((pk_lLT (by omega) (by omega)).mpr q)), hm⟩
  obtain ⟨q, q1, q3⟩ := hmq
  unfold f_Row_fillTo_16 f_Row_fillTo_59
  rw [C10r0 h.1 h.2.2.2.1, bs, c_l h.2.1 (by decide), bs, C10g1 h.1, bs, ez, ← hm, q3]
  by_cases c1 : q ≤ z
  · exact ⟨τ, by rw [if_pos (nI_le c1 (by omega))], h, frRw_refl⟩
  · obtain ⟨τ1, g1, g2, g3⟩ := k_fill3_10S (F := F) (c := c) (w := w.toInt8.toInt32) q1 (q - z) z F τ (by omega) (by omega) h
    refine ⟨tI τ1 r 1 (nI q), ?_, rowOK_1 g2 q1, frRw_trans g3 frRw_1⟩
    rw [if_neg (nI_ge (by omega) (by omega)), bs, bs]
    unfold f_Arrays_fill_3 f_Arrays_rangeCheck
    rw [c_l h.2.1 (by decide), bs, if_pos (nI_le (by omega) (by omega)), if_pos (nI_0le (by omega)), if_pos (nI_le q1 (by omega)), xb_mk, g1, xb_mk, C10p1 h.1, bs]
theorem k_fillToS {τ : px_TT} {e : Nat} {w : Int32} (hF : 65536 < F) (he : e < 2 ^ 62) (h : rowOK sk L τ r A n) : ∃ τ', f_Row_fillTo F c r (lN e) w (cH sk L τ) = some ((), cH sk L τ') ∧ rowOK sk L τ' r A n ∧ frRw r A τ τ' := by
  unfold f_Row_fillTo
  rw [C10r0 h.1 h.2.2.2.1, bs, c_l h.2.1 (by decide), bs]
  by_cases c1 : lN e ≤ (nI n).toInt64
  · rw [if_pos c1]; exact k_fillTo_16S hF he h
  · obtain ⟨τ', g1, g2, g3⟩ := k_fillTo_16S (F := F) (c := c) (e := e) (w := w) hF he (rowOK_2 (b := true) h)
    refine ⟨τ', ?_, g2, frRw_trans frRw_2 g3⟩
    rw [if_neg c1, show (nI 1 : Int32) = bI true from rfl, C10z2 h.1, bs]
    exact g1
theorem k_putAll_2S {j m : Nat} {l : List Nat} (hj : j < pg_nc) (hkB : ki_B (c j).1 = true) (hkv : kv c j l) (hl : l.length = m) (hm : m < 2 ^ 30) (hF : 1 < F) : ∀ (d i f : Nat) (τ : px_TT), i + d = m → d < f → rowOK sk L τ r A n → ∃ τ', f_Row_putAll_2 F c f r j (nI i) (cH sk L τ) = some ((), cH sk L τ') ∧ rowOK sk L τ' r A n ∧ frRw r A τ τ' := by
  intro d
  induction d with
  | zero =>
    intro i f τ hi hf h
    obtain ⟨f, rfl⟩ : ∃ x, f = x + 1 := ⟨f - 1, by omega⟩
    refine ⟨τ, ?_, h, frRw_refl⟩
    unfold f_Row_putAll_2 f_Row_putAll_23
    rw [xkl_at hkv hj, bs, hl, if_pos (nI_le (by omega) (by omega))]
  | succ d ih =>
    intro i f τ hi hf h
    obtain ⟨f, rfl⟩ : ∃ x, f = x + 1 := ⟨f - 1, by omega⟩
    obtain ⟨τ1, a1, a2, a3⟩ := k_putS (F := F) (c := c) (v := (nI (l.getD i 0)).toInt64) (k := 1) hF (by decide) h
    obtain ⟨τ', g1, g2, g3⟩ := ih (i + 1) f τ1 (by omega) (by omega) a2
    refine ⟨τ', ?_, g2, frRw_trans a3 g3⟩
    unfold f_Row_putAll_2
    rw [xkl_at hkv hj, bs, hl, if_neg (nI_ge (by omega) (by omega)), xkB_at hkv hj hkB (by omega) (by omega), bs, c_o h.1, bs, a1, xb_mk, nI_add]
    exact g1
end CRW
end
section
/-! the class's rows: copies, names, digits -/
theorem subI31 {z p : Nat} (hz : z < 2 ^ 30) (hp : p < 2 ^ 31) : (nI z - nI p).toInt = (z : Int) - (p : Int) := by
  rw [Int32.toInt_sub, nI_toInt (by omega), nI_toInt hp]
  exact Int.bmod_eq_of_le (by omega) (by omega)
theorem sub_le31 {z p m : Nat} (hz : z < 2 ^ 30) (hp : p < 2 ^ 31) (hm : m < 2 ^ 31) : (nI m ≤ nI z - nI p) ↔ p + m ≤ z := by
  rw [Int32.le_iff_toInt_le, subI31 hz hp, nI_toInt hm]
  omega
theorem sub_lt31 {z p m : Nat} (hz : z < 2 ^ 30) (hp : p < 2 ^ 31) (hm : m < 2 ^ 31) : (nI z - nI p < nI m) ↔ ¬ p + m ≤ z := by
  rw [Int32.lt_iff_toInt_lt, subI31 hz hp, nI_toInt hm]
  omega
theorem cpy_B {f g : Nat → Int32} {sp dp n : Nat} (hf : ∀ k, isB (f k)) (hg : ∀ k, isB (g k)) (k : Nat) : isB (va_cpy f g sp dp n k) := by
  unfold va_cpy
  split
  · exact hf _
  · exact hg _
section CRX
variable {F : Nat} {c : px_CT} {sk : Nat → Nat × Nat × Nat} {L : Nat} {r A n : Nat}
theorem c_cpy {τ : px_TT} {S N sp dp m : Nat} (hA : ar sk L 0 n A) (hS : ar sk L 0 N S) (hB : ∀ k, isB (eI τ S k)) (h1 : sp < 2 ^ 31) (h2 : dp < 2 ^ 31) (h3 : m < 2 ^ 31) (h4 : sp + m ≤ N) (h5 : dp + m ≤ n) : xcpy (cH sk L τ) S (nI sp) A (nI dp) (nI m) = some (cH sk L (vI τ A (va_cpy (eI τ S) (eI τ A) sp dp m))) := by
  unfold xcpy
  rw [c_A hS (Or.inl rfl), bs, c_A hA (Or.inl rfl), bs, nI_clamp h1, nI_clamp h2, nI_clamp h3, if_pos ⟨⟨nI_pos h1, nI_pos h2, nI_pos h3⟩, h4, h5, xfit_B hB sp m⟩]
  congr 1
  refine cH_set _ ?_ ?_
  · unfold cell
    rw [hA.1, vI_at]
    rfl
  · intro x hx
    exact cell_eq (fun _ => rfl) (fun _ => rfl) (fun _ => rfl) (u1_ne hx) rfl rfl
theorem k_coverS {τ : px_TT} {S N : Nat} {p q m : Int32} (hS : ar sk L 0 N S) (hN : N ≤ 65536) (hB : ∀ k, isB (eI τ S k)) (h : rowOK sk L τ r A n) : ∃ τ', f_Row_cover F c r p S q m (cH sk L τ) = some ((), cH sk L τ') ∧ rowOK sk L τ' r A n ∧ frRw r A τ τ' := by
  obtain ⟨z, hz, ez⟩ := h.2.2.2.2.1
  have hn := h.2.2.1
  unfold f_Row_cover f_Row_cover_33
  by_cases c1 : p < 0
  · exact ⟨τ, by rw [if_pos c1], h, frRw_refl⟩
  · rw [if_neg c1]
    by_cases c2 : q < 0
    · exact ⟨τ, by rw [if_pos c2], h, frRw_refl⟩
    · rw [if_neg c2]
      by_cases c3 : m < 0
      · exact ⟨τ, by rw [if_pos c3], h, frRw_refl⟩
      · obtain ⟨p', hp, ep⟩ := nI_of c1
        obtain ⟨q', hq, eq⟩ := nI_of c2
        obtain ⟨m', hm, em⟩ := nI_of c3
        rw [if_neg c3, C10g1 h.1, bs, ez, c_l hS (by decide), ep, eq, em]
        by_cases c4 : p' + m' ≤ z
        · rw [if_neg (fun w => (sub_lt31 (by omega) hp hm).mp w c4), bs]
          by_cases c5 : q' + m' ≤ N
          · refine ⟨vI τ A (va_cpy (eI τ S) (eI τ A) q' p' m'), ?_, rowOK_v h (cpy_B hB h.2.2.2.2.2.2), frRw_v⟩
            rw [if_pos ((sub_le31 (by omega) hq hm).mpr c5), C10r0 h.1 h.2.2.2.1, bs, c_cpy h.2.1 hS hB hq hp hm c5 (by omega), bs]
          · exact ⟨τ, by rw [if_neg (fun w => c5 ((sub_le31 (by omega) hq hm).mp w))], h, frRw_refl⟩
        · exact ⟨τ, by rw [if_pos ((sub_lt31 (by omega) hp hm).mpr c4)], h, frRw_refl⟩
theorem k_copyS {τ : px_TT} {S N : Nat} {q m : Int32} (hS : ar sk L 0 N S) (hN : N ≤ 65536) (hB : ∀ k, isB (eI τ S k)) (h : rowOK sk L τ r A n) : ∃ τ', f_Row_copy F c r S q m (cH sk L τ) = some ((), cH sk L τ') ∧ rowOK sk L τ' r A n ∧ frRw r A τ τ' := by
  obtain ⟨z, hz, ez⟩ := h.2.2.2.2.1
  have hn := h.2.2.1
  unfold f_Row_copy f_Row_copy_16
  by_cases c2 : q < 0
  · exact ⟨τ, by rw [if_pos c2], h, frRw_refl⟩
  · rw [if_neg c2]
    by_cases c3 : m < 0
    · exact ⟨τ, by rw [if_pos c3], h, frRw_refl⟩
    · obtain ⟨q', hq, eq⟩ := nI_of c2
      obtain ⟨m', hm, em⟩ := nI_of c3
      rw [if_neg c3, c_l hS (by decide), bs, eq, em]
      by_cases c5 : q' + m' ≤ N
      · rw [if_pos ((sub_le31 (by omega) hq hm).mpr c5), C10r0 h.1 h.2.2.2.1, bs, c_l h.2.1 (by decide), bs, C10g1 h.1, bs, ez]
        by_cases c6 : z + m' ≤ n
        · refine ⟨tI (vI τ A (va_cpy (eI τ S) (eI τ A) q' z m')) r 1 (nI (z + m')), ?_, rowOK_1 (rowOK_v h (cpy_B hB h.2.2.2.2.2.2)) c6, frRw_trans frRw_v frRw_1⟩
          rw [if_pos ((sub_le31 (by omega) (by omega) hm).mpr c6), bs, bs, c_cpy h.2.1 hS hB hq (by omega) hm c5 c6, bs, C10g1 h.1, bs]
          show ((xpI _ 10 1 r (fI τ r 1 + nI m')).bind _) = _
          rw [ez, nI_add, C10p1 h.1, bs]
        · refine ⟨tI τ r 2 (bI true), ?_, rowOK_2 h, frRw_2⟩
          rw [if_neg (fun w => c6 ((sub_le31 (by omega) (by omega) hm).mp w)), show (nI 1 : Int32) = bI true from rfl, C10z2 h.1, bs]
      · exact ⟨τ, by rw [if_neg (fun w => c5 ((sub_le31 (by omega) hq hm).mp w))], h, frRw_refl⟩
theorem k_writeTo_2S {p : Nat} (hF : 1 < F) (hp : ob sk L 5 p) : ∀ (d j f : Nat) (τ : px_TT), j + d = 24 → d < f → rowOK sk L τ r A n → ∃ τ', f_Name_writeTo_2 F c f p r (nI j) (cH sk L τ) = some ((), cH sk L τ') ∧ rowOK sk L τ' r A n ∧ frRw r A τ τ' := by
  intro d
  induction d with
  | zero =>
    intro j f τ hj hf h
    obtain ⟨f, rfl⟩ : ∃ x, f = x + 1 := ⟨f - 1, by omega⟩
    refine ⟨τ, ?_, h, frRw_refl⟩
    unfold f_Name_writeTo_2 f_Name_writeTo_67
    rw [C5g3 hp, bs]
    split
    · rfl
    · rw [if_pos (nI_le (by omega) (by omega))]
  | succ d ih =>
    intro j f τ hj hf h
    obtain ⟨f, rfl⟩ : ∃ x, f = x + 1 := ⟨f - 1, by omega⟩
    have step : ∀ w : Int64, ∃ τ', f_Name_writeTo_46 F c (f_Name_writeTo_2 F c f) p r (nI j) w (cH sk L τ) = some ((), cH sk L τ') ∧ rowOK sk L τ' r A n ∧ frRw r A τ τ' := fun w => by
      obtain ⟨τ1, a1, a2, a3⟩ := k_putS (F := F) (c := c) (v := ((w.toUInt64 >>> (((nI 8) * ((nI j) &&& (nI 7))).toInt64.toUInt64 &&& Int64.toUInt64 63)).toInt64)) (k := 1) hF (by decide) h
      obtain ⟨τ2, b1, b2, b3⟩ := ih (j + 1) f τ1 (by omega) (by omega) a2
      refine ⟨τ2, ?_, b2, frRw_trans a3 b3⟩
      unfold f_Name_writeTo_46
      rw [c_o h.1, bs, a1, xb_mk, nI_add]
      exact b1
    unfold f_Name_writeTo_2 f_Name_writeTo_67
    rw [C5g3 hp, bs, if_neg (nI_ge (show j < 24 by omega) (by decide)), C5g0 hp, C5g1 hp, C5g2 hp, bs, bs, bs]
    split
    · exact ⟨τ, rfl, h, frRw_refl⟩
    · split
      · split
        · exact step _
        · exact step _
      · exact step _
theorem k_writeToS {τ : px_TT} {p : Nat} (hF : 24 < F) (hp : ob sk L 5 p) (h : rowOK sk L τ r A n) : ∃ τ', f_Name_writeTo F c p r (cH sk L τ) = some ((), cH sk L τ') ∧ rowOK sk L τ' r A n ∧ frRw r A τ τ' := k_writeTo_2S (by omega) hp 24 0 F τ rfl (by omega) h
theorem k_putHex_3S {v : Int64} (hF : 1 < F) : ∀ (d f : Nat) (τ : px_TT), d ≤ 16 → d < f → rowOK sk L τ r A n → ∃ τ', f_Row_putHex_3 F c f r v (nI (4 * d) - nI 4) (cH sk L τ) = some ((), cH sk L τ') ∧ rowOK sk L τ' r A n ∧ frRw r A τ τ' := by
  intro d
  induction d with
  | zero =>
    intro f τ hd hf h
    obtain ⟨f, rfl⟩ : ∃ x, f = x + 1 := ⟨f - 1, by omega⟩
    refine ⟨τ, ?_, h, frRw_refl⟩
    unfold f_Row_putHex_3 f_Row_putHex_52
    rw [if_pos (by decide)]
  | succ d ih =>
    intro f τ hd hf h
    obtain ⟨f, rfl⟩ : ∃ x, f = x + 1 := ⟨f - 1, by omega⟩
    have e4 : nI (4 * (d + 1)) - nI 4 = nI (4 * d) := by rw [pk_sub (by omega), show 4 * (d + 1) - 4 = 4 * d by omega]
    have em : nI (4 * d) + Int32.ofInt (-4) = nI (4 * d) - nI 4 := by rw [Int32.sub_eq_add_neg]; rfl
    have step : ∀ w : Int64, ∃ τ', f_Row_putHex_43 F c (f_Row_putHex_3 F c f) r v (nI (4 * d)) r (nI 1) w (cH sk L τ) = some ((), cH sk L τ') ∧ rowOK sk L τ' r A n ∧ frRw r A τ τ' := fun w => by
      obtain ⟨τ1, a1, a2, a3⟩ := k_putS (F := F) (c := c) (v := w) (k := 1) hF (by decide) h
      obtain ⟨τ2, b1, b2, b3⟩ := ih f τ1 (by omega) (by omega) a2
      refine ⟨τ2, ?_, b2, frRw_trans a3 b3⟩
      unfold f_Row_putHex_43
      rw [c_o h.1, bs, a1, xb_mk, em]
      exact b1
    rw [e4]
    unfold f_Row_putHex_3 f_Row_putHex_52
    rw [if_neg (show ¬ nI (4 * d) < 0 from nI_pos (by omega))]
    split
    · exact step _
    · exact step _
theorem k_putHexS {τ : px_TT} {v : Int64} (hF : 16 < F) (h : rowOK sk L τ r A n) : ∃ τ', f_Row_putHex F c r v (cH sk L τ) = some ((), cH sk L τ') ∧ rowOK sk L τ' r A n ∧ frRw r A τ τ' := k_putHex_3S (by omega) 16 F τ (Nat.le_refl _) (by omega) h
theorem k_putDec_3S {v : Int32} (hF : 1 < F) : ∀ (d f : Nat) (τ : px_TT), d ≤ 9 → d + 1 < f → rowOK sk L τ r A n → ∃ τ', f_Row_putDecimal_3 F c f r v (nI (10 ^ d)) (cH sk L τ) = some ((), cH sk L τ') ∧ rowOK sk L τ' r A n ∧ frRw r A τ τ' := by
  intro d
  induction d with
  | zero =>
    intro f τ hd hf h
    obtain ⟨f, rfl⟩ : ∃ x, f = x + 2 := ⟨f - 2, by omega⟩
    have e0 : ∀ τ1, f_Row_putDecimal_32 F c (f_Row_putDecimal_3 F c (f + 1)) r v (nI (10 ^ 0)) (cH sk L τ1) = some ((), cH sk L τ1) := fun τ1 => by
      unfold f_Row_putDecimal_32 f_Row_putDecimal_3 f_Row_putDecimal_40
      rw [if_pos (by decide)]
    obtain ⟨τ1, a1, a2, a3⟩ := k_putS (F := F) (c := c) (v := (((nI 48) + ((v / (nI (10 ^ 0))) - (v / (nI (10 ^ 0))) / (nI 10) * (nI 10))).toInt64)) (k := 1) hF (by decide) h
    have e17 : f_Row_putDecimal_17 F c (f_Row_putDecimal_3 F c (f + 1)) r v (nI (10 ^ 0)) (cH sk L τ) = some ((), cH sk L τ1) := by
      unfold f_Row_putDecimal_17
      rw [show xnzI (nI (10 ^ 0)) = some () from rfl, bs, c_o h.1, bs, a1, xb_mk, e0]
    refine ⟨τ1, ?_, a2, a3⟩
    unfold f_Row_putDecimal_3
    rw [if_neg (by decide), e17, if_pos (show nI (10 ^ 0) = nI 1 from rfl)]
    split
    · rfl
    · rfl
  | succ d ih =>
    intro f τ hd hf h
    obtain ⟨f, rfl⟩ : ∃ x, f = x + 1 := ⟨f - 1, by omega⟩
    have hp : 10 ^ (d + 1) ≤ 10 ^ 9 := Nat.pow_le_pow_right (by decide) hd
    have hpos : 0 < 10 ^ (d + 1) := Nat.pow_pos (by decide)
    have ed : nI (10 ^ (d + 1)) / nI 10 = nI (10 ^ d) := by rw [pk_div (by omega) (by decide) (by decide), Nat.pow_succ, Nat.mul_div_cancel _ (by decide)]
    have e32 : ∀ τ1, rowOK sk L τ1 r A n → ∃ τ', f_Row_putDecimal_32 F c (f_Row_putDecimal_3 F c f) r v (nI (10 ^ (d + 1))) (cH sk L τ1) = some ((), cH sk L τ') ∧ rowOK sk L τ' r A n ∧ frRw r A τ1 τ' := fun τ1 h1 => by
      unfold f_Row_putDecimal_32
      rw [ed]
      exact ih f τ1 (by omega) (by omega) h1
    have e17 : ∃ τ', f_Row_putDecimal_17 F c (f_Row_putDecimal_3 F c f) r v (nI (10 ^ (d + 1))) (cH sk L τ) = some ((), cH sk L τ') ∧ rowOK sk L τ' r A n ∧ frRw r A τ τ' := by
      obtain ⟨τ1, a1, a2, a3⟩ := k_putS (F := F) (c := c) (v := (((nI 48) + ((v / (nI (10 ^ (d + 1)))) - (v / (nI (10 ^ (d + 1)))) / (nI 10) * (nI 10))).toInt64)) (k := 1) hF (by decide) h
      obtain ⟨τ2, b1, b2, b3⟩ := e32 τ1 a2
      refine ⟨τ2, ?_, b2, frRw_trans a3 b3⟩
      unfold f_Row_putDecimal_17
      have e0 : xnzI (nI (10 ^ (d + 1))) = some () := by
        unfold xnzI
        rw [if_neg (fun q => by have := (nI_eq (by omega) (by decide)).mp (show nI (10 ^ (d + 1)) = nI 0 from q); omega)]
      rw [e0, bs, c_o h.1, bs, a1, xb_mk]
      exact b1
    unfold f_Row_putDecimal_3
    rw [if_neg (show ¬ nI (10 ^ (d + 1)) ≤ 0 from nI_ge (a := 0) hpos (by omega))]
    split
    · exact e17
    · split
      · exact e17
      · exact e32 τ h
theorem k_putDecS {τ : px_TT} {v : Int32} (hF : 16 < F) (h : rowOK sk L τ r A n) : ∃ τ', f_Row_putDecimal F c r v (cH sk L τ) = some ((), cH sk L τ') ∧ rowOK sk L τ' r A n ∧ frRw r A τ τ' := k_putDec_3S (by omega) 9 F τ (Nat.le_refl _) (by omega) h
theorem k_putHigh_3S {v : Int32} (hF : 1 < F) : ∀ (d f : Nat) (τ : px_TT), d ≤ 4 → d < f → rowOK sk L τ r A n → ∃ τ', f_Row_putHighestFirst_3 F c f r v (nI (8 * d) - nI 8) (cH sk L τ) = some ((), cH sk L τ') ∧ rowOK sk L τ' r A n ∧ frRw r A τ τ' := by
  intro d
  induction d with
  | zero =>
    intro f τ hd hf h
    obtain ⟨f, rfl⟩ : ∃ x, f = x + 1 := ⟨f - 1, by omega⟩
    refine ⟨τ, ?_, h, frRw_refl⟩
    unfold f_Row_putHighestFirst_3 f_Row_putHighestFirst_22
    rw [if_pos (by decide)]
  | succ d ih =>
    intro f τ hd hf h
    obtain ⟨f, rfl⟩ : ∃ x, f = x + 1 := ⟨f - 1, by omega⟩
    have e4 : nI (8 * (d + 1)) - nI 8 = nI (8 * d) := by rw [pk_sub (by omega), show 8 * (d + 1) - 8 = 8 * d by omega]
    have em : nI (8 * d) + Int32.ofInt (-8) = nI (8 * d) - nI 8 := by rw [Int32.sub_eq_add_neg]; rfl
    rw [e4]
    obtain ⟨τ1, a1, a2, a3⟩ := k_putS (F := F) (c := c) (v := (((v.toUInt32 >>> ((nI (8 * d)).toUInt32 &&& Int32.toUInt32 31)).toInt32).toInt64)) (k := 1) hF (by decide) h
    obtain ⟨τ2, b1, b2, b3⟩ := ih f τ1 (by omega) (by omega) a2
    refine ⟨τ2, ?_, b2, frRw_trans a3 b3⟩
    unfold f_Row_putHighestFirst_3 f_Row_putHighestFirst_22
    rw [if_neg (show ¬ nI (8 * d) < 0 from nI_pos (by omega)), c_o h.1, bs, a1, xb_mk, em]
    exact b1
theorem k_putHighS {τ : px_TT} {v : Int32} (hF : 16 < F) (h : rowOK sk L τ r A n) : ∃ τ', f_Row_putHighestFirst F c r v (cH sk L τ) = some ((), cH sk L τ') ∧ rowOK sk L τ' r A n ∧ frRw r A τ τ' := k_putHigh_3S (by omega) 4 F τ (Nat.le_refl _) (by omega) h
end CRX
end
section
/-! what calls write besides what a link reads -/
def Zc (a : Nat) : Prop := (1 ≤ a ∧ a < 7) ∨ a = 146 ∨ a = 1695 ∨ (1711 ≤ a ∧ a ≤ 1725)
def frZ (τ τ' : px_TT) : Prop := (∀ a k, ¬ Zc a → (a = 0 → k < 15) → (1815 ≤ a → k ≠ 17) → (152 ≤ a → a < 1688 → k ≠ 12) → (a = 147 → k ≠ 18) → fI τ' a k = fI τ a k) ∧ (∀ a k, ¬ Zc a → (a = 147 → k ≠ 19) → fJ τ' a k = fJ τ a k) ∧ (∀ a k, (a = 0 → k ≠ 1 ∧ k ≠ 2) → fN τ' a k = fN τ a k) ∧ (∀ a, ¬ Zc a → eI τ' a = eI τ a) ∧ (∀ a, ¬ Zc a → eJ τ' a = eJ τ a) ∧ ∀ a, a ≠ 1717 → eN τ' a = eN τ a
theorem frZ_refl {τ : px_TT} : frZ τ τ := ⟨fun _ _ _ _ _ _ _ => rfl, fun _ _ _ _ => rfl, fun _ _ _ => rfl, fun _ _ => rfl, fun _ _ => rfl, fun _ _ => rfl⟩
theorem frZ_trans {τ τ1 τ2 : px_TT} (h : frZ τ τ1) (g : frZ τ1 τ2) : frZ τ τ2 := ⟨fun a k x y z w u => (g.1 a k x y z w u).trans (h.1 a k x y z w u), fun a k x y => (g.2.1 a k x y).trans (h.2.1 a k x y), fun a k x => (g.2.2.1 a k x).trans (h.2.2.1 a k x), fun a x => (g.2.2.2.1 a x).trans (h.2.2.2.1 a x), fun a x => (g.2.2.2.2.1 a x).trans (h.2.2.2.2.1 a x), fun a x => (g.2.2.2.2.2 a x).trans (h.2.2.2.2.2 a x)⟩
theorem frZ_Rw {r A : Nat} {τ τ' : px_TT} (f : frRw r A τ τ') (hr : Zc r) (hA : Zc A) : frZ τ τ' := ⟨fun a k h _ _ _ _ => f.1 a k (Or.inl (fun e => h (e ▸ hr))), fun a k _ _ => f.2.1 a k, fun a k _ => f.2.2.1 a k, fun a h => f.2.2.2.1 a (fun e => h (e ▸ hA)), fun a _ => f.2.2.2.2.1 a, fun a _ => f.2.2.2.2.2 a⟩
theorem frZ_N {a : Nat} {τ τ' : px_TT} (f : frN a τ τ') (ha : Zc a) : frZ τ τ' := ⟨fun x k h _ _ _ _ => f.1 x k (Or.inl (fun e => h (e ▸ ha))), fun x k h _ => f.2.1 x k (Or.inl (fun e => h (e ▸ ha))), fun x k _ => f.2.2.1 x k, fun x _ => f.2.2.2.1 x, fun x _ => f.2.2.2.2.1 x, fun x _ => f.2.2.2.2.2 x⟩
theorem frZ_I {τ : px_TT} {a k : Nat} {v : Int32} (h : Zc a ∨ (a = 0 ∧ 15 ≤ k) ∨ (1815 ≤ a ∧ k = 17) ∨ (152 ≤ a ∧ a < 1688 ∧ k = 12) ∨ (a = 147 ∧ k = 18)) : frZ τ (tI τ a k v) := ⟨fun x y h1 h2 h3 h4 h5 => tI_ne (by
    rcases h with q | q | q | q | q
    · exact Or.inl (fun e => h1 (e ▸ q))
    · omega
    · omega
    · omega
    · omega), fun _ _ _ _ => rfl, fun _ _ _ => rfl, fun _ _ => rfl, fun _ _ => rfl, fun _ _ => rfl⟩
theorem frZ_J {τ : px_TT} {a k : Nat} {v : Int64} (h : Zc a ∨ (a = 147 ∧ k = 19)) : frZ τ (tJ τ a k v) := ⟨fun _ _ _ _ _ _ _ => rfl, fun x y h1 h2 => tJ_ne (by
    rcases h with q | q
    · exact Or.inl (fun e => h1 (e ▸ q))
    · omega), fun _ _ _ => rfl, fun _ _ => rfl, fun _ _ => rfl, fun _ _ => rfl⟩
theorem frZ_v {τ : px_TT} {a : Nat} {g : Nat → Int32} (h : Zc a) : frZ τ (vI τ a g) := ⟨fun _ _ _ _ _ _ _ => rfl, fun _ _ _ _ => rfl, fun _ _ _ => rfl, fun x hx => eI_v_ne (fun e => hx (e ▸ h)), fun _ _ => rfl, fun _ _ => rfl⟩
theorem frZ_vJ {τ : px_TT} {a : Nat} {g : Nat → Int64} (h : Zc a) : frZ τ (vJ τ a g) := ⟨fun _ _ _ _ _ _ _ => rfl, fun _ _ _ _ => rfl, fun _ _ _ => rfl, fun _ _ => rfl, fun x hx => eJ_v_ne (fun e => hx (e ▸ h)), fun _ _ => rfl⟩
theorem frZ_vN {τ : px_TT} {g : Nat → Option Nat} : frZ τ (vN τ 1717 g) := ⟨fun _ _ _ _ _ _ _ => rfl, fun _ _ _ _ => rfl, fun _ _ _ => rfl, fun _ _ => rfl, fun _ _ => rfl, fun x hx => eN_v_ne hx⟩
theorem frZ_tN {τ : px_TT} {k : Nat} {v : Option Nat} (h : k = 1 ∨ k = 2) : frZ τ (tN τ 0 k v) := ⟨fun _ _ _ _ _ _ _ => rfl, fun _ _ _ _ => rfl, fun x y hx => by rw [fN_tN, if_neg (by omega)], fun _ _ => rfl, fun _ _ => rfl, fun _ _ => rfl⟩
theorem GR_my {τ τ' : px_TT} (h : GR τ) (hN : ∀ a k, a < 1726 → (a = 0 → k ≠ 1 ∧ k ≠ 2) → fN τ' a k = fN τ a k) (hI : ∀ a k, 10 ≤ a → a < 138 → k < 3 → fI τ' a k = fI τ a k) (h9 : eN τ' 9 = eN τ 9) (h151 : eN τ' 151 = eN τ 151) : GR τ' := by
  refine ⟨fun x hx => ?_, fun i hi => ?_, fun i hi => ?_⟩
  · have hlt : ∀ x, x ∈ grl → x.1 < 1726 ∧ (x.1 = 0 → x.2.1 ≠ 1 ∧ x.2.1 ≠ 2) := by decide
    rw [hN _ _ (hlt x hx).1 (hlt x hx).2]
    exact h.1 x hx
  · have g := h.2.1 i hi
    rw [hN _ _ (by omega) (by omega), hN _ _ (by omega) (by omega), h9, hI _ _ (by omega) (by omega) (by omega), hI _ _ (by omega) (by omega) (by omega)]
    exact g
  · rw [h151]; exact h.2.2 i hi
section CFZ
variable {sk : Nat → Nat × Nat × Nat} {L : Nat} {τ τ' : px_TT} {own : Nat → Nat × Nat} {fs : px_FS} {s : px_TK} {xs : px_NL} {ST rn : Nat → Bool} {gs : List (List Nat × Int64)} {ws : List (List Nat)} {C B : Nat → Nat} {ll sl cpf : List Nat} {tO : Nat → Nat} {th : Nat → Bool} {NA : Nat → Int64} {pp : Nat} {ad : Nat → Nat} {fe3 tp sp fp0 fp1 fp2 bg0 bg1 bg2 : Nat}
theorem Zc_no {a : Nat} (h : a = 0 ∨ (7 ≤ a ∧ a < 146) ∨ (147 ≤ a ∧ a < 1695) ∨ (1696 ≤ a ∧ a < 1711) ∨ 1726 ≤ a) : ¬ Zc a := fun w => by unfold Zc at w; omega
theorem GR_Z (h : GR τ) (f : frZ τ τ') : GR τ' := GR_my h (fun a k _ hk => f.2.2.1 a k hk) (fun a k h1 h2 _ => f.1 a k (Zc_no (by omega)) (by omega) (by omega) (by omega) (by omega)) (f.2.2.2.2.2 9 (by decide)) (f.2.2.2.2.2 151 (by decide))
theorem SF_Z (f : frZ τ τ') : SF τ τ' := ⟨fun a k h hk => f.1 a k (Zc_no (by omega)) (by omega) (by omega) (by omega) (by omega), fun a k h => f.2.2.1 a k (by omega), fun a h => f.2.2.2.1 a (Zc_no (by omega))⟩
theorem CF_Z (h : CF sk L τ fs) (f : frZ τ τ') : CF sk L τ' fs := CF_mv h EX_refl (SF_Z f)
theorem CB_Z (h : CB τ C) (f : frZ τ τ') : CB τ' C := by
  unfold CB
  rw [f.2.2.2.1 8 (Zc_no (by omega))]
  exact h
theorem NP_Z (h : NP sk L τ own) (f : frZ τ τ') : NP sk L τ' own := NP_fx h (fun A hA => f.2.2.2.2.2 A (by omega))
theorem TKe_Zf (h : TKe sk L own τ fs s xs ST rn) (f : frZ τ τ') : TKe sk L own τ' fs s xs ST rn := by
  obtain ⟨a1, a2, a3, ⟨k1, k2, k3, k4⟩, a5, a6, a7⟩ := h
  have hT := BK_T (s := s) a5.1
  have hge : ∀ i, i < xs.length → 1815 ≤ pN τ 149 i := fun i hi => (k1 149 i _ (Or.inr (Or.inr rfl)) (CLm_at k2 (List.getElem?_eq_getElem hi)).2.1).1
  have eE : ∀ a, a ≠ 1717 → eN τ' a = eN τ a := f.2.2.2.2.2
  have hI : ∀ i, i < xs.length → ∀ k, k ≠ 17 → fI τ' (pN τ 149 i) k = fI τ (pN τ 149 i) k := fun i hi k hk => by
    have := hge i hi
    exact f.1 _ k (Zc_no (by omega)) (by omega) (fun _ => hk) (by omega) (by omega)
  refine ⟨a1, GR_Z a2 f, CF_Z a3 f, ⟨NP_Z k1 f, CLm_fx k2 EX_refl (fun i hi k hk => hI i hi k (by omega)) (fun i x hx e => by rw [hI i (List.getElem?_eq_some_iff.mp hx).1 13 (by decide)]; exact (k2.2.1 i x hx).2 e) (fun i hi k hk => f.2.1 _ k (Zc_no (by have := hge i hi; omega)) (by have := hge i hi; omega)) (fun i hi => f.2.2.1 _ 6 (by have := hge i hi; omega)) ⟨f.2.2.1 148 0 (by omega), f.1 148 2 (Zc_no (by omega)) (by omega) (by omega) (by omega) (by omega)⟩ (f.1 147 15 (Zc_no (by omega)) (by omega) (by omega) (by omega) (by omega)) (eE 149 (by decide)) (eE 1693 (by decide)), (f.1 147 14 (Zc_no (by omega)) (by omega) (by omega) (by omega) (by omega)).trans k3, fun t q hq => ?_⟩, a5, a6, a7⟩
  have ht := (List.getElem?_eq_some_iff.mp hq).1
  obtain ⟨r1, r2, r3⟩ := k4 t q hq
  exact ⟨fun i hi => isPe_fx (r1 i hi) (fun k hk _ => f.1 _ k (Zc_no (by omega)) (by omega) (by omega) (by omega) (by omega)) (by rw [f.1 _ 9 (Zc_no (by omega)) (by omega) (by omega) (by omega) (by omega)]; exact (r1 i hi).2.2.2.2.1), RSy_fx r2 (eE 149 (by decide)) (fun k _ => by rw [eE 1692 (by decide)]), by rw [eE 1689 (by decide)]; exact r3⟩
theorem CN_Z {N' A : Nat} (h : CN sk L τ N' A ws) (hn : NP sk L τ own) (f : frZ τ τ') (hN : N' = 140 ∨ N' = 143) (hA : A = 141 ∨ A = 144) : CN sk L τ' N' A ws := by
  obtain ⟨s1, s2, s3, s4, s5, s6, s7⟩ := h
  have eA : eN τ' A = eN τ A := f.2.2.2.2.2 A (by omega)
  refine ⟨s1, (f.2.2.1 N' 0 (by omega)).trans s2, s3, s4, s5, (f.1 N' 2 (Zc_no (by omega)) (by omega) (by omega) (by omega) (by omega)).trans s6, fun i w hw => ?_⟩
  obtain ⟨z1, z2, z3, z4⟩ := s7 i w hw
  have hz := (hn A i _ (by omega) z2).1
  rw [eA]
  exact ⟨z1, z2, z3, (f.2.1 _ 0 (Zc_no (by omega)) (by omega)).trans z4.1, (f.2.1 _ 1 (Zc_no (by omega)) (by omega)).trans z4.2.1, (f.2.1 _ 2 (Zc_no (by omega)) (by omega)).trans z4.2.2.1, (f.1 _ 3 (Zc_no (by omega)) (by omega) (by omega) (by omega) (by omega)).trans z4.2.2.2⟩
theorem CG_Z (h : CG sk L τ gs) (hn : NP sk L τ own) (f : frZ τ τ') : CG sk L τ' gs := by
  refine ⟨CN_Z h.1 hn f (Or.inl rfl) (Or.inl rfl), fun i x hx => ?_⟩
  have hm : (gs.map Prod.fst)[i]? = some x.1 := by rw [List.getElem?_map, hx]; rfl
  have hp : eN τ 141 i = some ((eN τ 141 i).getD 0) := (h.1.2.2.2.2.2.2 i _ hm).2.1
  have hz := (hn 141 i _ (Or.inl rfl) hp).1
  rw [f.2.2.2.2.2 141 (by decide), f.2.1 _ 7 (Zc_no (by omega)) (by omega)]
  exact h.2 i x hx
theorem CW_Z (h : CW sk L τ ws) (hn : NP sk L τ own) (f : frZ τ τ') : CW sk L τ' ws := CN_Z h hn f (Or.inr rfl) (Or.inr rfl)
theorem isNm_Z {w : List Nat} (h : isNm τ 1696 w) (f : frZ τ τ') : isNm τ' 1696 w := ⟨(f.2.1 _ 0 (Zc_no (by omega)) (by omega)).trans h.1, (f.2.1 _ 1 (Zc_no (by omega)) (by omega)).trans h.2.1, (f.2.1 _ 2 (Zc_no (by omega)) (by omega)).trans h.2.2.1, (f.1 _ 3 (Zc_no (by omega)) (by omega) (by omega) (by omega) (by omega)).trans h.2.2.2⟩
theorem LAc_Z (h : LAc sk L own τ fs s xs ST rn ll C B cpf tO pp ad) (f : frZ τ τ') : LAc sk L own τ' fs s xs ST rn ll C B cpf tO pp ad := by
  obtain ⟨h1, ⟨hk, hl, hall⟩, hcb, hpl, h5, hpp, had, hT, hrel⟩ := h
  have hT4 := BK_T (s := s) h1.2.2.2.2.1.1
  refine ⟨TKe_Zf h1 f, ⟨hk, hl, hall⟩, CB_Z hcb f, CPl_fx hpl (f.1 1697 3 (Zc_no (by omega)) (by omega) (by omega) (by omega) (by omega)) (f.1 1697 4 (Zc_no (by omega)) (by omega) (by omega) (by omega) (by omega)) (f.2.2.2.1 1698 (Zc_no (by omega))) (f.2.2.2.1 1699 (Zc_no (by omega))), ?_, hpp, fun x hx hs => ?_, hT, hrel⟩
  · rw [f.2.1 _ _ (Zc_no (by omega)) (by omega)]; exact h5
  · have hx1 := (hl.2 x hx).1
    rw [f.2.1 _ _ (Zc_no (by omega)) (by omega)]
    exact had x hx hs
theorem LAD_Z (h : LAD sk L own τ fs s xs ST rn ll sl C B cpf tO th NA pp ad fe3 tp sp fp0 fp1 fp2 bg0 bg1 bg2) (f : frZ τ τ') : LAD sk L own τ' fs s xs ST rn ll sl C B cpf tO th NA pp ad fe3 tp sp fp0 fp1 fp2 bg0 bg1 bg2 := by
  obtain ⟨d1, d2, ⟨d3, d4⟩, ⟨d5, d6⟩, d7, d8, d9, d10, d11, ⟨d12, d13, d14⟩, d15, d16, d17⟩ := h
  have h1 := d1.1
  have hT4 := BK_T (s := s) h1.2.2.2.2.1.1
  have hge : ∀ i, i < xs.length → 1815 ≤ pN τ 149 i := fun i hi => (h1.2.2.2.1.1 149 i _ (Or.inr (Or.inr rfl)) (CLm_at h1.2.2.2.1.2.1 (List.getElem?_eq_getElem hi)).2.1).1
  have eP : ∀ n, pN τ' 149 n = pN τ 149 n := fun n => by unfold pN; rw [f.2.2.2.2.2 149 (by decide)]
  have e3 := f.2.2.2.1 1703 (Zc_no (by omega))
  have e4 := f.2.2.2.2.1 1704 (Zc_no (by omega))
  have e5 := f.2.2.2.2.1 1705 (Zc_no (by omega))
  have eJ0 : ∀ k, fJ τ' 1700 k = fJ τ 1700 k := fun k => f.2.1 _ _ (Zc_no (by omega)) (by omega)
  refine ⟨LAc_Z d1 f, COr_fx d2 (f.1 1700 11 (Zc_no (by omega)) (by omega) (by omega) (by omega) (by omega)) (f.2.2.2.2.2 1701 (by decide)), ⟨⟨?_, ?_, ?_, ?_⟩, d4⟩, ⟨fun j hj => by rw [e3]; exact d5 j hj, by rw [e3]; exact d6⟩, fun j hj => ?_, fun x hx => ?_, fun w => by rw [eJ0]; exact d9 w, by rw [eJ0]; exact d10, by rw [eJ0]; exact d11, ⟨by rw [e4]; exact d12, by rw [e4]; exact d13, by rw [e4]; exact d14⟩, by rw [e5]; exact d15, by rw [e5]; exact d16, by rw [e5]; exact d17⟩
  · rw [f.1 1700 12 (Zc_no (by omega)) (by omega) (by omega) (by omega) (by omega)]; exact d3.1
  · intro i z hz; rw [f.2.2.2.1 1708 (Zc_no (by omega))]; exact d3.2.1 i z hz
  · intro P hP t ht
    have := hge P hP
    rw [eP, f.1 _ _ (Zc_no (by omega)) (by omega) (by omega) (by omega) (by omega)]
    exact d3.2.2.1 P hP t ht
  · intro z hz hn; rw [f.2.2.2.1 1709 (Zc_no (by omega))]; exact d3.2.2.2 z hz hn
  · have := hge j hj
    rw [eP, f.2.1 _ _ (Zc_no (by omega)) (by omega)]
    exact d7 j hj
  · have hx1 := (d1.2.1.2.1.2 x hx).1
    rw [f.2.1 _ _ (Zc_no (by omega)) (by omega)]
    exact d8 x hx
end CFZ
end
section
/-! addresses of symbols, as the class has them -/
section CSY
variable {F : Nat} {c : px_CT} {sk : Nat → Nat × Nat × Nat} {L : Nat} {τ : px_TT} {own : Nat → Nat × Nat} {fs : px_FS} {s : px_TK} {xs : px_NL} {ST rn : Nat → Bool} {ll : List Nat} {C B : Nat → Nat} {cpf : List Nat} {tO : Nat → Nat} {pp : Nat} {ad : Nat → Nat} {on : Bool} {R : Nat → Bool} {NA : Nat → Int64} {t j : Nat}
theorem k_nameOf2 (h : TKe sk L own τ fs s xs ST rn) (ht : t < s.2.2.1.length) (hj : j < oM (tB fs s.2.2.1 t)) : f_Link_nameOf F c 147 (nI t) (nI j) (cH sk L τ) = some (syN τ (tB fs s.2.2.1 t) xs j, cH sk L τ) ∧ (hsN (tB fs s.2.2.1 t) j = true → plc (yT (tB fs s.2.2.1 t) j) (xs.map Prod.fst) < xs.length) ∧ j < 64 := by
  have hT := BK_T (s := s) h.2.2.2.2.1.1
  obtain ⟨q, hq, hq64, hD, hcb, he, hpe, hsy, _⟩ := TKe_ob h ht
  have hM := w2_M (eObj_0 he).1
  have hj64 : j < 64 := by omega
  obtain ⟨s1, s2⟩ := hsy j hj64
  refine ⟨?_, fun hh => ?_, hj64⟩
  · rw [k_nameOf h.1 h.2.1 (by omega) hj64, s1]
  · have := plc_lt (s2 hh)
    rw [List.length_map] at this
    exact this
theorem k_symbolAddress (hF : 65536 < F) (h : LAc sk L own τ fs s xs ST rn ll C B cpf tO pp ad) (hr : STr fs s on R ST) (hNA : ∀ i, i < xs.length → fJ τ (pN τ 149 i) 14 = NA i) (ht : t < s.2.2.1.length) (hj : j < oM (tB fs s.2.2.1 t)) : f_Layout_symbolAddress F c 1700 (nI t) (nI j) (cH sk L τ) = some (syA (tB fs s.2.2.1) xs (ownV B (pf0 B tO (tB fs s.2.2.1) ll) tO (tB fs s.2.2.1) s.2.1.1 (sta (tB fs s.2.2.1) s.2.1.1 on R) pp ad) NA t j, cH sk L τ) := by
  have hS := h.1.1
  have hR := h.1.2.1
  have hT := BK_T (s := s) h.1.2.2.2.2.1.1
  obtain ⟨q, hq, hq64, hD, hcb, he, hpe, hsy, _⟩ := TKe_ob h.1 ht
  obtain ⟨kn, kp, hj64⟩ := k_nameOf2 (F := F) (c := c) h.1 ht hj
  have ko := k_object (F := F) (c := c) h.1 hq
  obtain ⟨w2', hyk, _⟩ := eObj_0 he
  have hjm : j < oM (cb (eI τ 8) (bsO fs q) (tNf fs s.2.2.1 t)) := by rw [hcb]; exact hj
  have kw := k_whereOf (F := F) (c := c) hD.1 (by omega) hjm
  have kv := k_valueOf (F := F) (c := c) hD.1 (by omega) hjm
  rw [hcb] at kw kv
  have hq7 : ob sk L 7 (10 + 2 * q) := hD.1.1.1.1.1
  have o := G1700 hS
  unfold f_Layout_symbolAddress
  rw [C2r0 o (GR_r (v := 147) hR (by decide)), bs, c_o (G147 hS), bs, kn, xb_mk]
  by_cases c1 : hsN (tB fs s.2.2.1 t) j = true
  · have es : syN τ (tB fs s.2.2.1 t) xs j = some (pN τ 149 (plc (yT (tB fs s.2.2.1 t) j) (xs.map Prod.fst))) := by unfold syN; rw [if_pos c1]
    have hpl := kp c1
    have hp := (CLm_at h.1.2.2.2.1.2.1 (List.getElem?_eq_getElem hpl)).2.2.1
    have hc := of_decide_eq_true c1
    rw [es]
    show ((xgJ (cH sk L τ) 5 14 _).bind fun t11 => _) = _
    rw [C5g14 hp, bs, hNA _ hpl]
    unfold syA
    rw [if_neg (by omega), if_neg hc.2.2]
  · have es : syN τ (tB fs s.2.2.1 t) xs j = none := by unfold syN; rw [if_neg c1]
    rw [es]
    show ((xgR (cH sk L τ) 2 0 1700).bind fun t5 => _) = _
    rw [C2r0 o (GR_r (v := 147) hR (by decide)), bs, c_o (G147 hS), bs, ko, xb_mk]
    by_cases c0 : j = 0
    · subst c0
      rw [if_pos (show nI 0 = 0 from rfl)]
      unfold f_Layout_symbolAddress_43 syA
      rw [if_pos (show nI 0 = 0 from rfl), if_pos rfl]
    · have hyB : yB (tB fs s.2.2.1 t) j = 0 := by
        rcases Nat.eq_zero_or_pos (yB (tB fs s.2.2.1 t) j) with e | e
        · exact e
        · exact absurd (decide_eq_true (⟨by omega, hj, by omega⟩ : 1 ≤ j ∧ j < oM (tB fs s.2.2.1 t) ∧ yB (tB fs s.2.2.1 t) j ≠ 0)) c1
      have hyo := hyk j (by omega) hj
      have hwn : yW (tB fs s.2.2.1 t) j ≠ 65522 := (of_decide_eq_true hyo).2.2.1 hyB
      have hwr := (of_decide_eq_true hyo).2.1
      have hS24 := w2'.1.2.1.2
      have hV : yV (tB fs s.2.2.1 t) j < 2 ^ 64 := by rw [← hcb]; exact le_lt (cb_lt _ _ _) _ 8
      have hW : yW (tB fs s.2.2.1 t) j < 65536 := by rw [← hcb]; exact le_lt (cb_lt _ _ _) _ 2
      have eS : syA (tB fs s.2.2.1) xs (ownV B (pf0 B tO (tB fs s.2.2.1) ll) tO (tB fs s.2.2.1) s.2.1.1 (sta (tB fs s.2.2.1) s.2.1.1 on R) pp ad) NA t j = ownV B (pf0 B tO (tB fs s.2.2.1) ll) tO (tB fs s.2.2.1) s.2.1.1 (sta (tB fs s.2.2.1) s.2.1.1 on R) pp ad t j := by unfold syA; rw [if_neg c0, if_pos hyB]
      have e88 : ∀ a6, f_Layout_symbolAddress_88 F c 1700 (nI j) (some (10 + 2 * q)) a6 (cH sk L τ) = some (lN (yV (tB fs s.2.2.1 t) j), cH sk L τ) := fun a6 => by
        unfold f_Layout_symbolAddress_88 f_Layout_symbolAddress_93 f_Layout_symbolAddress_124
        rw [if_neg (by decide), bs, c_o hq7, bs, kv, xb_mk]
      rw [eS, ownV_c (ST := ST) hyo hS24 hwn (STr_i hr ht), if_neg (show ¬ nI j = 0 from fun e => c0 ((nI_eq (b := 0) (by omega) (by decide)).mp e)), bs, c_o hq7, bs, kw, xb_mk]
      unfold f_Layout_symbolAddress_43
      by_cases cw : yW (tB fs s.2.2.1 t) j = 0
      · rw [cw, if_pos (show nI 0 = 0 from rfl), if_pos rfl]
      · rw [if_neg (show ¬ nI (yW (tB fs s.2.2.1 t) j) = 0 from fun e => cw ((nI_eq (b := 0) (by omega) (by decide)).mp e)), if_neg cw]
        by_cases c24 : yW (tB fs s.2.2.1 t) j < 24
        · have hpe' := hpe (yW (tB fs s.2.2.1 t) j) c24
          have ha := k_addressIn (F := F) (c := c) (x := 24 * t + yW (tB fs s.2.2.1 t) j) hF h (by omega) hV
          have hp8 := (TKe_part h.1 (x := 24 * t + yW (tB fs s.2.2.1 t) j) (by omega)).1
          rw [if_neg (nI_ge c24 (by decide)), C2r0 o (GR_r (v := 147) hR (by decide)), bs, c_o (G147 hS), bs, k_part hS hR (by omega) c24, xb_mk]
          unfold f_Layout_symbolAddress_73
          show ((xgI (cH sk L τ) 8 8 _).bind fun t2 => _) = _
          rw [C8g8 hp8, bs, hpe'.2.2.2.1]
          by_cases ck : kpB (tB fs s.2.2.1 t) (yW (tB fs s.2.2.1 t) j) = true ∨ s.2.1.1 (24 * t + yW (tB fs s.2.2.1 t) j) = true
          · have eR : (if yW (tB fs s.2.2.1 t) j < 24 ∧ (kpB (tB fs s.2.2.1 t) (yW (tB fs s.2.2.1 t) j) = true ∨ s.2.1.1 (24 * t + yW (tB fs s.2.2.1 t) j) = true) then adV ST B (pf0 B tO (tB fs s.2.2.1) ll) tO (tB fs s.2.2.1) pp ad (24 * t + yW (tB fs s.2.2.1 t) j) (yV (tB fs s.2.2.1 t) j) else lN (yV (tB fs s.2.2.1 t) j)) = adV ST B (pf0 B tO (tB fs s.2.2.1) ll) tO (tB fs s.2.2.1) pp ad (24 * t + yW (tB fs s.2.2.1 t) j) (yV (tB fs s.2.2.1 t) j) := if_pos ⟨c24, ck⟩
            have en : ¬ nI (if s.2.1.1 (24 * t + yW (tB fs s.2.2.1 t) j) = true then 2 else if kpB (tB fs s.2.2.1 t) (yW (tB fs s.2.2.1 t) j) = true then 1 else 0) = 0 := by
              by_cases cd : s.2.1.1 (24 * t + yW (tB fs s.2.2.1 t) j) = true
              · rw [if_pos cd]; decide
              · rw [if_neg cd, if_pos (ck.resolve_right cd)]; decide
            rw [if_neg en, eR]
            unfold f_Layout_symbolAddress_93 f_Layout_symbolAddress_124
            rw [if_pos (show nI 0 = 0 from rfl), C2r1 o (GR_r (v := 1697) hR (by decide)), bs, bs, c_o hq7, bs, kv, xb_mk, c_o (G1697 hS), bs, ha, xb_mk]
          · have e0 : nI (if s.2.1.1 (24 * t + yW (tB fs s.2.2.1 t) j) = true then 2 else if kpB (tB fs s.2.2.1 t) (yW (tB fs s.2.2.1 t) j) = true then 1 else 0) = 0 := by
              rw [if_neg (fun q => ck (Or.inr q)), if_neg (fun q => ck (Or.inl q))]; rfl
            rw [if_pos e0, e88, if_neg (fun q => ck q.2)]
        · rw [if_pos (nI_le (by omega) (by omega))]
          unfold f_Layout_symbolAddress_73
          show f_Layout_symbolAddress_88 F c 1700 (nI j) (some (10 + 2 * q)) none (cH sk L τ) = _
          rw [e88, if_neg (fun q => c24 q.1)]
theorem k_slotValue {sl : List Nat} {k z : Nat} {tp : Nat} (hF : 65536 < F) (h : LAc sk L own τ fs s xs ST rn ll C B cpf tO pp ad) (hr : STr fs s on R ST) (hNA : ∀ i, i < xs.length → fJ τ (pN τ 149 i) 14 = NA i) (hc : SLc s.2.2.1.length (tB fs s.2.2.1) xs τ sl) (hI : SLI s.2.2.1.length (tB fs s.2.2.1) sl) (h17 : fJ τ 1700 17 = lN tp) (hz : sl[k]? = some z) (hk : sl.length ≤ 2800) : ∃ v, f_Layout_slotValue F c 1700 (nI k) (cH sk L τ) = some (v, cH sk L τ) := by
  have hkl := (List.getElem?_eq_some_iff.mp hz).1
  obtain ⟨z1, z2⟩ := hI.2 z (List.mem_of_getElem? hz)
  have hT := BK_T (s := s) h.1.2.2.2.2.1.1
  have o := G1700 h.1.1
  have ks := k_symbolAddress (F := F) (c := c) (NA := NA) hF h hr hNA z1 z2
  have hz8 : z < 8192 := by omega
  unfold f_Layout_slotValue f_Layout_slotValue_22 f_Layout_slotValue_59
  rw [if_neg (nI_pos (by omega)), C2g12 o, bs, hc.1, if_neg (nI_ge hkl (by omega)), C2r9 o (GR_r (v := 1708) h.1.2.1 (by decide)), bs, c_aI (G1708 h.1.1) (by decide) (by decide) (by omega), bs, hc.2.1 k z hz, c_o o, bs, pk_div (by omega) (by decide) (by decide), pk_div (by omega) (by decide) (by decide), pk_mul, pk_sub (by omega), show z / 2 - z / 2 / 64 * 64 = z / 2 % 64 by omega, ks, xb_mk]
  split
  · exact ⟨_, rfl⟩
  · exact ⟨_, by rw [C2g17 o, bs]⟩
end CSY
end
section
/-! the file that a link writes: safe -/
section CWR
variable {F : Nat} {c : px_CT} {sk : Nat → Nat × Nat × Nat} {L : Nat} {τ : px_TT}
abbrev rF (sk : Nat → Nat × Nat × Nat) (L : Nat) (τ : px_TT) : Prop := rowOK sk L τ 1711 1712 65536
abbrev fF (τ τ' : px_TT) : Prop := frRw 1711 1712 τ τ'
theorem GR_Fw {τ' : px_TT} (h : GR τ) (f : fF τ τ') : GR τ' := GR_Rw h f (Or.inr (by decide))
theorem frZ_F {τ' : px_TT} (f : fF τ τ') : frZ τ τ' := frZ_Rw f (by unfold Zc; omega) (by unfold Zc; omega)
theorem k_wh_180 {a b : Int32} (hF : 65536 < F) (hS : GS sk L) (hR : GR τ) (h : rF sk L τ) : ∃ τ', f_Filler_writeHead_180 F c 1710 1711 (nI 2) a b (cH sk L τ) = some ((), cH sk L τ') ∧ rF sk L τ' ∧ fF τ τ' := by
  obtain ⟨τ1, a1, r1, f1⟩ := k_putS (F := F) (c := c) (v := (a + b).toInt64) (k := 2) (by omega) (by decide) h
  have F1 : fF τ τ1 := f1
  obtain ⟨τ2, a2, r2, f2⟩ := k_putS (F := F) (c := c) (v := lN 0) (k := 6) (by omega) (by decide) r1
  have F2 : fF τ τ2 := frRw_trans F1 f2
  refine ⟨τ2, ?_, r2, F2⟩
  unfold f_Filler_writeHead_180
  rw [c_o h.1, bs, a1, xb_mk, C1r4 (G1710 hS) (GR_r (v := 1711) (GR_Fw hR F1) (by decide)), bs, c_o h.1, bs, a2, xb_mk]
theorem k_wh_95 {v : Int64} {th : Nat → Bool} (hF : 65536 < F) (hS : GS sk L) (hR : GR τ) (hth : ∀ j, j < 3 → eI τ 1703 j = bI (th j)) (h : rF sk L τ) : ∃ τ', f_Filler_writeHead_95 F c 1710 1711 (nI 8) v (cH sk L τ) = some ((), cH sk L τ') ∧ rF sk L τ' ∧ fF τ τ' := by
  obtain ⟨τ1, a1, r1, f1⟩ := k_putS (F := F) (c := c) (v := v) (k := 8) (by omega) (by decide) h
  have F1 : fF τ τ1 := f1
  obtain ⟨τ2, a2, r2, f2⟩ := k_putS (F := F) (c := c) (v := (64 : Int64)) (k := 8) (by omega) (by decide) r1
  have F2 : fF τ τ2 := frRw_trans F1 f2
  obtain ⟨τ3, a3, r3, f3⟩ := k_putS (F := F) (c := c) (v := lN 0) (k := 8) (by omega) (by decide) r2
  have F3 : fF τ τ3 := frRw_trans F2 f3
  obtain ⟨τ4, a4, r4, f4⟩ := k_putS (F := F) (c := c) (v := lN 0) (k := 4) (by omega) (by decide) r3
  have F4 : fF τ τ4 := frRw_trans F3 f4
  obtain ⟨τ5, a5, r5, f5⟩ := k_putS (F := F) (c := c) (v := (64 : Int64)) (k := 2) (by omega) (by decide) r4
  have F5 : fF τ τ5 := frRw_trans F4 f5
  obtain ⟨τ6, a6, r6, f6⟩ := k_putS (F := F) (c := c) (v := (56 : Int64)) (k := 2) (by omega) (by decide) r5
  have F6 : fF τ τ6 := frRw_trans F5 f6
  have hth6 : ∀ j, j < 3 → eI τ6 1703 j = bI (th j) := fun j hj => by rw [F6.2.2.2.1 1703 (by decide)]; exact hth j hj
  have kc := k_countSegments (F := F) (c := c) (by omega) hS (GR_Fw hR F6) hth6
  have fin : ∀ b : Int32, ∃ τ', f_Filler_writeHead_180 F c 1710 1711 (nI 2) (nI (sgN th 3)) b (cH sk L τ6) = some ((), cH sk L τ') ∧ rF sk L τ' ∧ fF τ τ' := fun b => by
    obtain ⟨τ7, b1, b2, b3⟩ := k_wh_180 (F := F) (c := c) (a := nI (sgN th 3)) (b := b) hF hS (GR_Fw hR F6) r6
    exact ⟨τ7, b1, b2, frRw_trans F6 b3⟩
  unfold f_Filler_writeHead_95
  rw [c_o h.1, bs, a1, xb_mk, C1r4 (G1710 hS) (GR_r (v := 1711) (GR_Fw hR F1) (by decide)), bs, c_o h.1, bs, a2, xb_mk, C1r4 (G1710 hS) (GR_r (v := 1711) (GR_Fw hR F2) (by decide)), bs, c_o h.1, bs, a3, xb_mk, C1r4 (G1710 hS) (GR_r (v := 1711) (GR_Fw hR F3) (by decide)), bs, c_o h.1, bs, a4, xb_mk, C1r4 (G1710 hS) (GR_r (v := 1711) (GR_Fw hR F4) (by decide)), bs, c_o h.1, bs, a5, xb_mk, C1r4 (G1710 hS) (GR_r (v := 1711) (GR_Fw hR F5) (by decide)), bs, c_o h.1, bs, a6, xb_mk, C1r4 (G1710 hS) (GR_r (v := 1711) (GR_Fw hR F6) (by decide)), bs, C1r1 (G1710 hS) (GR_r (v := 1700) (GR_Fw hR F6) (by decide)), bs, c_o (G1700 hS), bs, kc, xb_mk, C1r1 (G1710 hS) (GR_r (v := 1700) (GR_Fw hR F6) (by decide)), bs, C2r4 (G1700 hS) (GR_r (v := 1703) (GR_Fw hR F6) (by decide)), bs, c_aI (G1703 hS) (by decide) (by decide) (by decide), bs]
  split
  · exact fin _
  · exact fin _
theorem k_writeHead {th : Nat → Bool} {own : Nat → Nat × Nat} {fs : px_FS} {s : px_TK} {xs : px_NL} {ST rn : Nat → Bool} (hF : 65536 < F) (hc : KT c) (hk : TKe sk L own τ fs s xs ST rn) (hst : isNm τ 1696 wST) (hth : ∀ j, j < 3 → eI τ 1703 j = bI (th j)) (h : rF sk L τ) : ∃ τ', f_Filler_writeHead F c 1710 (cH sk L τ) = some ((), cH sk L τ') ∧ rF sk L τ' ∧ fF τ τ' := by
  have hS := hk.1
  have hR := hk.2.1
  have kf := k_find2 (F := F) (c := c) (t := 1696) (w := wST) hk (by omega) (G1696 hS) hst ⟨by decide, by decide⟩
  obtain ⟨τ1, a1, r1, f1⟩ := k_clearS (F := F) (c := c) h
  have F1 : fF τ τ1 := f1
  obtain ⟨τ2, a2, r2, f2⟩ := k_putAll_2S (F := F) (c := c) (j := 3) (m := 7) (l := [127, 69, 76, 70, 2, 1, 1]) (by decide) hc.2.2.1.1 hc.2.2.1.2 rfl (by decide) (by omega) 7 0 F τ1 rfl (by omega) r1
  have F2 : fF τ τ2 := frRw_trans F1 f2
  obtain ⟨τ3, a3, r3, f3⟩ := k_fillToS (F := F) (c := c) (e := 16) (w := nI 0) hF (by decide) r2
  have F3 : fF τ τ3 := frRw_trans F2 f3
  obtain ⟨τ4, a4, r4, f4⟩ := k_putS (F := F) (c := c) (v := (2 : Int64)) (k := 2) (by omega) (by decide) r3
  have F4 : fF τ τ4 := frRw_trans F3 f4
  obtain ⟨τ5, a5, r5, f5⟩ := k_putS (F := F) (c := c) (v := (62 : Int64)) (k := 2) (by omega) (by decide) r4
  have F5 : fF τ τ5 := frRw_trans F4 f5
  obtain ⟨τ6, a6, r6, f6⟩ := k_putS (F := F) (c := c) (v := lN 1) (k := 4) (by omega) (by decide) r5
  have F6 : fF τ τ6 := frRw_trans F5 f6
  have hth6 : ∀ j, j < 3 → eI τ6 1703 j = bI (th j) := fun j hj => by rw [F6.2.2.2.1 1703 (by decide)]; exact hth j hj
  have fin : ∀ v : Int64, ∃ τ', f_Filler_writeHead_95 F c 1710 1711 (nI 8) v (cH sk L τ6) = some ((), cH sk L τ') ∧ rF sk L τ' ∧ fF τ τ' := fun v => by
    obtain ⟨τ7, b1, b2, b3⟩ := k_wh_95 (F := F) (c := c) (v := v) hF hS (GR_Fw hR F6) hth6 r6
    exact ⟨τ7, b1, b2, frRw_trans F6 b3⟩
  have e2 : f_Row_putAll F c 1711 3 (cH sk L τ1) = some ((), cH sk L τ2) := a2
  unfold f_Filler_writeHead
  rw [C1r0 (G1710 hS) (GR_r (v := 147) hR (by decide)), bs, C3r3 (G147 hS) (GR_r (v := 148) hR (by decide)), bs, bs, C3r12 (G147 hS) (GR_r (v := 1696) hR (by decide)), bs, c_o (G148 hS), bs, kf, xb_mk, C1r4 (G1710 hS) (GR_r (v := 1711) hR (by decide)), bs, c_o h.1, bs, a1, xb_mk, C1r4 (G1710 hS) (GR_r (v := 1711) (GR_Fw hR F1) (by decide)), bs, c_o h.1, bs, e2, xb_mk, C1r4 (G1710 hS) (GR_r (v := 1711) (GR_Fw hR F2) (by decide)), bs, c_o h.1, bs, show (16 : Int64) = lN 16 from rfl, a3, xb_mk, C1r4 (G1710 hS) (GR_r (v := 1711) (GR_Fw hR F3) (by decide)), bs, c_o h.1, bs, a4, xb_mk, C1r4 (G1710 hS) (GR_r (v := 1711) (GR_Fw hR F4) (by decide)), bs, c_o h.1, bs, a5, xb_mk, C1r4 (G1710 hS) (GR_r (v := 1711) (GR_Fw hR F5) (by decide)), bs, c_o h.1, bs, a6, xb_mk, C1r4 (G1710 hS) (GR_r (v := 1711) (GR_Fw hR F6) (by decide)), bs]
  cases ei : idx wST 0 (xs.map Prod.fst) with
  | none => exact fin _
  | some i =>
    have hi : i < xs.length := by
      have := (idx_lt ei).2
      rw [List.length_map] at this
      omega
    have hp := (CLm_at hk.2.2.2.1.2.1 (List.getElem?_eq_getElem hi)).2.2.1
    show ∃ τ', ((xgJ (cH sk L τ6) 5 14 (pN τ 149 i)).bind fun t21 => f_Filler_writeHead_95 F c 1710 1711 (nI 8) t21 (cH sk L τ6)) = some ((), cH sk L τ') ∧ rF sk L τ' ∧ fF τ τ'
    rw [C5g14 hp, bs]
    exact fin _
theorem k_writeRow {j : Nat} {a b : Int32} {w : Int64} (hF : 65536 < F) (hS : GS sk L) (hR : GR τ) (hj : j < 4) (h : rF sk L τ) : ∃ τ', f_Filler_writeRow F c 1710 a b (nI j) w (cH sk L τ) = some ((), cH sk L τ') ∧ rF sk L τ' ∧ fF τ τ' := by
  obtain ⟨τ1, a1, r1, f1⟩ := k_putS (F := F) (c := c) (v := a.toInt64) (k := 4) (by omega) (by decide) h
  have F1 : fF τ τ1 := f1
  obtain ⟨τ2, a2, r2, f2⟩ := k_putS (F := F) (c := c) (v := b.toInt64) (k := 4) (by omega) (by decide) r1
  have F2 : fF τ τ2 := frRw_trans F1 f2
  obtain ⟨τ3, a3, r3, f3⟩ := k_putS (F := F) (c := c) (v := eJ τ2 1704 j) (k := 8) (by omega) (by decide) r2
  have F3 : fF τ τ3 := frRw_trans F2 f3
  obtain ⟨τ4, a4, r4, f4⟩ := k_putS (F := F) (c := c) (v := eJ τ3 1705 j) (k := 8) (by omega) (by decide) r3
  have F4 : fF τ τ4 := frRw_trans F3 f4
  obtain ⟨τ5, a5, r5, f5⟩ := k_putS (F := F) (c := c) (v := eJ τ4 1705 j) (k := 8) (by omega) (by decide) r4
  have F5 : fF τ τ5 := frRw_trans F4 f5
  obtain ⟨τ6, a6, r6, f6⟩ := k_putS (F := F) (c := c) (v := eJ τ5 1706 j) (k := 8) (by omega) (by decide) r5
  have F6 : fF τ τ6 := frRw_trans F5 f6
  obtain ⟨τ7, a7, r7, f7⟩ := k_putS (F := F) (c := c) (v := eJ τ6 1707 j) (k := 8) (by omega) (by decide) r6
  have F7 : fF τ τ7 := frRw_trans F6 f7
  obtain ⟨τ8, a8, r8, f8⟩ := k_putS (F := F) (c := c) (v := w) (k := 8) (by omega) (by decide) r7
  have F8 : fF τ τ8 := frRw_trans F7 f8
  refine ⟨τ8, ?_, r8, F8⟩
  unfold f_Filler_writeRow
  rw [C1r4 (G1710 hS) (GR_r (v := 1711) hR (by decide)), bs, c_o h.1, bs, a1, xb_mk, C1r4 (G1710 hS) (GR_r (v := 1711) (GR_Fw hR F1) (by decide)), bs, c_o h.1, bs, a2, xb_mk, C1r4 (G1710 hS) (GR_r (v := 1711) (GR_Fw hR F2) (by decide)), bs, C1r1 (G1710 hS) (GR_r (v := 1700) (GR_Fw hR F2) (by decide)), bs, C2r5 (G1700 hS) (GR_r (v := 1704) (GR_Fw hR F2) (by decide)), bs, c_aJ (G1704 hS) (by decide) hj, bs, c_o h.1, bs, a3, xb_mk, C1r4 (G1710 hS) (GR_r (v := 1711) (GR_Fw hR F3) (by decide)), bs, C1r1 (G1710 hS) (GR_r (v := 1700) (GR_Fw hR F3) (by decide)), bs, C2r6 (G1700 hS) (GR_r (v := 1705) (GR_Fw hR F3) (by decide)), bs, c_aJ (G1705 hS) (by decide) hj, bs, c_o h.1, bs, a4, xb_mk, C1r4 (G1710 hS) (GR_r (v := 1711) (GR_Fw hR F4) (by decide)), bs, C1r1 (G1710 hS) (GR_r (v := 1700) (GR_Fw hR F4) (by decide)), bs, C2r6 (G1700 hS) (GR_r (v := 1705) (GR_Fw hR F4) (by decide)), bs, c_aJ (G1705 hS) (by decide) hj, bs, c_o h.1, bs, a5, xb_mk, C1r4 (G1710 hS) (GR_r (v := 1711) (GR_Fw hR F5) (by decide)), bs, C1r1 (G1710 hS) (GR_r (v := 1700) (GR_Fw hR F5) (by decide)), bs, C2r7 (G1700 hS) (GR_r (v := 1706) (GR_Fw hR F5) (by decide)), bs, c_aJ (G1706 hS) (by decide) hj, bs, c_o h.1, bs, a6, xb_mk, C1r4 (G1710 hS) (GR_r (v := 1711) (GR_Fw hR F6) (by decide)), bs, C1r1 (G1710 hS) (GR_r (v := 1700) (GR_Fw hR F6) (by decide)), bs, C2r8 (G1700 hS) (GR_r (v := 1707) (GR_Fw hR F6) (by decide)), bs, c_aJ (G1707 hS) (by decide) hj, bs, c_o h.1, bs, a7, xb_mk, C1r4 (G1710 hS) (GR_r (v := 1711) (GR_Fw hR F7) (by decide)), bs, c_o h.1, bs, a8, xb_mk]
end CWR
end
section
/-! the file that a link writes: safe, whole -/
section CWS
variable {F : Nat} {c : px_CT} {sk : Nat → Nat × Nat × Nat} {L : Nat} {τ0 : px_TT} {own : Nat → Nat × Nat} {fs : px_FS} {s : px_TK} {xs : px_NL} {ST rn : Nat → Bool} {C B : Nat → Nat} {ll sl cpf : List Nat} {tO : Nat → Nat} {th : Nat → Bool} {NA : Nat → Int64} {pp : Nat} {ad : Nat → Nat} {fe3 tp sp fp0 fp1 fp2 bg0 bg1 bg2 : Nat} {on : Bool} {R : Nat → Bool}
theorem k_w_287 {p : Int32} (hF : 65536 < F) (hr : STr fs s on R ST) (hN : SLN s.2.2.1.length (tB fs s.2.2.1)) (hL : LAD sk L own τ0 fs s xs ST rn ll sl C B cpf tO th NA pp ad fe3 tp sp fp0 fp1 fp2 bg0 bg1 bg2) : ∀ (d k f : Nat) (τ : px_TT), k + d = sl.length → d < f → rF sk L τ → fF τ0 τ → ∃ τ', f_Filler_write_287 F c f 1710 p (nI k) (cH sk L τ) = some ((), cH sk L τ') ∧ rF sk L τ' ∧ fF τ0 τ' := by
  have hns := hN _ hL.2.2.1.2
  intro d
  induction d with
  | zero =>
    intro k f τ hk hf h hfr
    obtain ⟨f, rfl⟩ : ∃ x, f = x + 1 := ⟨f - 1, by omega⟩
    have hL1 := LAD_Z hL (frZ_F hfr)
    have hS := hL1.1.1.1
    have hR := hL1.1.1.2.1
    refine ⟨τ, ?_, h, hfr⟩
    unfold f_Filler_write_287 f_Filler_write_327
    rw [C1r1 (G1710 hS) (GR_r (v := 1700) hR (by decide)), bs, C2g12 (G1700 hS), bs, hL1.2.2.1.1.1, if_pos (nI_le (by omega) (by omega))]
  | succ d ih =>
    intro k f τ hk hf h hfr
    obtain ⟨f, rfl⟩ : ∃ x, f = x + 1 := ⟨f - 1, by omega⟩
    have hL1 := LAD_Z hL (frZ_F hfr)
    have hS := hL1.1.1.1
    have hR := hL1.1.1.2.1
    have hkl : k < sl.length := by omega
    obtain ⟨v, kv⟩ := k_slotValue (F := F) (c := c) (NA := NA) hF hL1.1 hr hL1.2.2.2.2.1 hL1.2.2.1.1 hL1.2.2.1.2 hL1.2.2.2.2.2.2.2.1 (List.getElem?_eq_getElem hkl) hns
    obtain ⟨τ1, a1, r1, f1⟩ := k_setS (F := F) (c := c) (v := v) (k := 8) (p := p + nI 8 * nI k) (by omega) (by decide) h
    obtain ⟨τ2, b1, b2, b3⟩ := ih (k + 1) f τ1 (by omega) (by omega) r1 (frRw_trans hfr f1)
    refine ⟨τ2, ?_, b2, b3⟩
    unfold f_Filler_write_287
    rw [C1r1 (G1710 hS) (GR_r (v := 1700) hR (by decide)), bs, C2g12 (G1700 hS), bs, hL1.2.2.1.1.1, if_neg (nI_ge hkl (by omega)), C1r4 (G1710 hS) (GR_r (v := 1711) hR (by decide)), bs, bs, c_o (G1700 hS), bs, kv, xb_mk, c_o h.1, bs, a1, xb_mk, nI_add]
    exact b1
theorem k_w_194 (hF : 65536 < F) (hr : STr fs s on R ST) (hN : SLN s.2.2.1.length (tB fs s.2.2.1)) (hL : LAD sk L own τ0 fs s xs ST rn ll sl C B cpf tO th NA pp ad fe3 tp sp fp0 fp1 fp2 bg0 bg1 bg2) : ∀ (d k f : Nat) (p : Int32) (τ : px_TT), k + d = cpf.length → d < f → rF sk L τ → fF τ0 τ → ∃ τ', f_Filler_write_194 F c f 1710 p (nI k) (cH sk L τ) = some ((), cH sk L τ') ∧ rF sk L τ' ∧ fF τ0 τ' := by
  have hns := hN _ hL.2.2.1.2
  have hcl := stL_len hL.1.2.2.2.1.2.2.1
  intro d
  induction d with
  | zero =>
    intro k f p τ hk hf h hfr
    obtain ⟨f, rfl⟩ : ∃ x, f = x + 1 := ⟨f - 1, by omega⟩
    have hL1 := LAD_Z hL (frZ_F hfr)
    have hS := hL1.1.1.1
    have hR := hL1.1.1.2.1
    unfold f_Filler_write_194 f_Filler_write_256
    rw [C1r2 (G1710 hS) (GR_r (v := 1697) hR (by decide)), bs, C9g3 (G1697 hS), bs, hL1.1.2.2.2.1.1, if_pos (nI_le (by omega) (by omega)), C1r1 (G1710 hS) (GR_r (v := 1700) hR (by decide)), bs, C2r5 (G1700 hS) (GR_r (v := 1704) hR (by decide)), bs, c_aJ (G1704 hS) (by decide) (by decide), bs, bs, C2g13 (G1700 hS), bs, bs, C2r6 (G1700 hS) (GR_r (v := 1705) hR (by decide)), bs, c_aJ (G1705 hS) (by decide) (by decide), bs]
    exact k_w_287 hF hr hN hL sl.length 0 F τ (Nat.zero_add _) (by omega) h hfr
  | succ d ih =>
    intro k f p τ hk hf h hfr
    obtain ⟨f, rfl⟩ : ∃ x, f = x + 1 := ⟨f - 1, by omega⟩
    have hL1 := LAD_Z hL (frZ_F hfr)
    have hS := hL1.1.1.1
    have hR := hL1.1.1.2.1
    have hkl : k < cpf.length := by omega
    obtain ⟨τ1, a1, r1, f1⟩ := k_coverS (F := F) (c := c) (p := p) (q := eI τ 1698 k) (m := eI τ 1699 k) (G8 hS) (by decide) hL1.1.2.2.1.1 h
    have hR1 := GR_Fw hR f1
    obtain ⟨τ2, b1, b2, b3⟩ := ih (k + 1) f (p + eI τ1 1699 k) τ1 (by omega) (by omega) r1 (frRw_trans hfr f1)
    refine ⟨τ2, ?_, b2, b3⟩
    unfold f_Filler_write_194
    rw [C1r2 (G1710 hS) (GR_r (v := 1697) hR (by decide)), bs, C9g3 (G1697 hS), bs, hL1.1.2.2.2.1.1, if_neg (nI_ge hkl (by omega)), C1r4 (G1710 hS) (GR_r (v := 1711) hR (by decide)), bs, C1r3 (G1710 hS) (GR_r (v := 7) hR (by decide)), bs, C10r0 (G7 hS) (GR_r (v := 8) hR (by decide)), bs, bs, C9r1 (G1697 hS) (GR_r (v := 1698) hR (by decide)), bs, c_aI (G1698 hS) (by decide) (by decide) (by omega), bs, bs, C9r2 (G1697 hS) (GR_r (v := 1699) hR (by decide)), bs, c_aI (G1699 hS) (by decide) (by decide) (by omega), bs, c_o h.1, bs, a1, xb_mk, C1r2 (G1710 hS) (GR_r (v := 1697) hR1 (by decide)), bs, C9r2 (G1697 hS) (GR_r (v := 1699) hR1 (by decide)), bs, c_aI (G1699 hS) (by decide) (by decide) (by omega), bs, nI_add]
    exact b1
theorem k_spotOf {τ : px_TT} {x : Nat} (hc : KT c) (hL : LAD sk L own τ fs s xs ST rn ll sl C B cpf tO th NA pp ad fe3 tp sp fp0 fp1 fp2 bg0 bg1 bg2) (hx : x < 24 * s.2.2.1.length) (hs : ST x = true) : ∃ v, f_Filler_spotOf F c 1710 (some (152 + x)) (cH sk L τ) = some (v, cH sk L τ) := by
  have hS := hL.1.1.1
  have hR := hL.1.1.2.1
  obtain ⟨p4, _⟩ := TKe_pt hL.1.1 hL.1.2.1.1 hx hs
  have hp := (TKe_part hL.1.1 hx).1
  have hg := oG_5 (b := tB fs s.2.2.1 (x / 24)) (i := x % 24)
  have ks := k_segmentOf (F := F) (c := c) hc hp (by omega) p4
  have hsg : sgO (oG (tB fs s.2.2.1 (x / 24)) (x % 24)) < 4 := by unfold sgO; split <;> omega
  refine ⟨((eJ τ 1704 (sgO (oG (tB fs s.2.2.1 (x / 24)) (x % 24))) + fJ τ (152 + x) 11) - eJ τ 1705 (sgO (oG (tB fs s.2.2.1 (x / 24)) (x % 24)))).toInt32, ?_⟩
  unfold f_Filler_spotOf
  rw [C1r1 (G1710 hS) (GR_r (v := 1700) hR (by decide)), bs, c_o (G1700 hS), bs, ks, xb_mk, C1r1 (G1710 hS) (GR_r (v := 1700) hR (by decide)), bs, C2r5 (G1700 hS) (GR_r (v := 1704) hR (by decide)), bs, c_aJ (G1704 hS) (by decide) hsg, bs, bs, C8g11 hp, bs, bs, C2r6 (G1700 hS) (GR_r (v := 1705) hR (by decide)), bs, c_aJ (G1705 hS) (by decide) hsg, bs]
theorem k_w_87 (hF : 65536 < F) (hc : KT c) (hr : STr fs s on R ST) (hN : SLN s.2.2.1.length (tB fs s.2.2.1)) (hL : LAD sk L own τ0 fs s xs ST rn ll sl C B cpf tO th NA pp ad fe3 tp sp fp0 fp1 fp2 bg0 bg1 bg2) : ∀ (d k f : Nat) (τ : px_TT), k + d = ll.length → d < f → rF sk L τ → fF τ0 τ → ∃ τ', f_Filler_write_87 F c f 1710 (nI k) (cH sk L τ) = some ((), cH sk L τ') ∧ rF sk L τ' ∧ fF τ0 τ' := by
  have hcl := stL_len hL.1.2.2.2.1.2.2.1
  have hl1 := hL.1.2.1.2.1.1
  intro d
  induction d with
  | zero =>
    intro k f τ hk hf h hfr
    obtain ⟨f, rfl⟩ : ∃ x, f = x + 1 := ⟨f - 1, by omega⟩
    have hL1 := LAD_Z hL (frZ_F hfr)
    have hS := hL1.1.1.1
    have hR := hL1.1.1.2.1
    unfold f_Filler_write_87 f_Filler_write_163
    rw [C1r1 (G1710 hS) (GR_r (v := 1700) hR (by decide)), bs, C2g11 (G1700 hS), bs, hL1.2.1.1, if_pos (nI_le (by omega) (by omega)), bs, C2r5 (G1700 hS) (GR_r (v := 1704) hR (by decide)), bs, c_aJ (G1704 hS) (by decide) (by decide), bs, C1r2 (G1710 hS) (GR_r (v := 1697) hR (by decide)), bs, C9g5 (G1697 hS), bs, bs, C2r6 (G1700 hS) (GR_r (v := 1705) hR (by decide)), bs, c_aJ (G1705 hS) (by decide) (by decide), bs]
    exact k_w_194 hF hr hN hL cpf.length 0 F _ τ (Nat.zero_add _) (by omega) h hfr
  | succ d ih =>
    intro k f τ hk hf h hfr
    obtain ⟨f, rfl⟩ : ∃ x, f = x + 1 := ⟨f - 1, by omega⟩
    have hL1 := LAD_Z hL (frZ_F hfr)
    have hS := hL1.1.1.1
    have hR := hL1.1.1.2.1
    have hkl : k < ll.length := by omega
    obtain ⟨x, hx⟩ : ∃ x, ll[k]? = some x := ⟨_, List.getElem?_eq_getElem hkl⟩
    have hx2 := hL1.1.2.1.2.1.2 x (List.mem_of_getElem? hx)
    have hp := (TKe_part hL1.1.1 hx2.1).1
    have kp := k_partAt (F := F) (c := c) hS hR hL1.2.1 hl1 hx
    have next : ∀ τ1, rF sk L τ1 → fF τ0 τ1 → ∃ τ', f_Filler_write_157 F c (f_Filler_write_87 F c f) 1710 (nI k) (cH sk L τ1) = some ((), cH sk L τ') ∧ rF sk L τ' ∧ fF τ0 τ' := fun τ1 h1 f1 => by
      unfold f_Filler_write_157
      rw [nI_add]
      exact ih (k + 1) f τ1 (by omega) (by omega) h1 f1
    obtain ⟨v, kv⟩ := k_spotOf (F := F) (c := c) hc hL1 hx2.1 hx2.2
    obtain ⟨τ1, a1, r1, f1⟩ := k_coverS (F := F) (c := c) (p := v) (q := fI τ (152 + x) 7) (m := fI τ (152 + x) 5) (G8 hS) (by decide) hL1.1.2.2.1.1 h
    unfold f_Filler_write_87
    rw [C1r1 (G1710 hS) (GR_r (v := 1700) hR (by decide)), bs, C2g11 (G1700 hS), bs, hL1.2.1.1, if_neg (nI_ge hkl (by omega)), bs, c_o (G1700 hS), bs, kp, xb_mk, bs, C8g4 hp, bs]
    split
    · exact next τ h hfr
    · rw [bs]
      split
      · exact next τ h hfr
      · rw [C8g10 hp, bs]
        split
        · rw [C1r4 (G1710 hS) (GR_r (v := 1711) hR (by decide)), bs, c_o (G1710 hS), bs, kv, xb_mk, C1r3 (G1710 hS) (GR_r (v := 7) hR (by decide)), bs, C10r0 (G7 hS) (GR_r (v := 8) hR (by decide)), bs, C8g7 hp, bs, C8g5 hp, bs, c_o h.1, bs, a1, xb_mk]
          exact next τ1 r1 (frRw_trans hfr f1)
        · exact next τ h hfr
theorem k_w_43 {τ : px_TT} (hF : 65536 < F) (hc : KT c) (hr : STr fs s on R ST) (hN : SLN s.2.2.1.length (tB fs s.2.2.1)) (hfe : fe3 < 2 ^ 62) (hL : LAD sk L own τ0 fs s xs ST rn ll sl C B cpf tO th NA pp ad fe3 tp sp fp0 fp1 fp2 bg0 bg1 bg2) (h : rF sk L τ) (hfr : fF τ0 τ) : ∃ τ', f_Filler_write_43 F c 1710 (cH sk L τ) = some ((), cH sk L τ') ∧ rF sk L τ' ∧ fF τ0 τ' := by
  have hL1 := LAD_Z hL (frZ_F hfr)
  have hS := hL1.1.1.1
  have hR := hL1.1.1.2.1
  have hl1 := hL.1.2.1.2.1.1
  have e70 : ∀ τ1, rF sk L τ1 → fF τ0 τ1 → ∃ τ', f_Filler_write_70 F c 1710 (cH sk L τ1) = some ((), cH sk L τ') ∧ rF sk L τ' ∧ fF τ0 τ' := fun τ1 h1 f1 => by
    have hL2 := LAD_Z hL (frZ_F f1)
    have hR2 := hL2.1.1.2.1
    obtain ⟨τ2, a1, r1, g1⟩ := k_fillToS (F := F) (c := c) (e := fe3) (w := nI 0) hF hfe h1
    obtain ⟨τ3, b1, b2, b3⟩ := k_w_87 (F := F) (c := c) hF hc hr hN hL ll.length 0 F τ2 (Nat.zero_add _) (by omega) r1 (frRw_trans f1 g1)
    refine ⟨τ3, ?_, b2, b3⟩
    unfold f_Filler_write_70
    rw [C1r4 (G1710 hS) (GR_r (v := 1711) hR2 (by decide)), bs, C1r1 (G1710 hS) (GR_r (v := 1700) hR2 (by decide)), bs, C2g18 (G1700 hS), bs, hL2.2.2.2.2.2.2.2.2.1, c_o h1.1, bs, a1, xb_mk]
    exact b1
  unfold f_Filler_write_43
  rw [C1r1 (G1710 hS) (GR_r (v := 1700) hR (by decide)), bs, C2r4 (G1700 hS) (GR_r (v := 1703) hR (by decide)), bs, c_aI (G1703 hS) (by decide) (by decide) (by decide), bs]
  split
  · exact e70 τ h hfr
  · obtain ⟨τ1, a1, r1, f1⟩ := k_writeRow (F := F) (c := c) (j := 3) (a := nI 7) (b := nI 4) (w := fJ τ 1700 16) hF hS hR (by decide) h
    obtain ⟨τ2, b1, b2, b3⟩ := e70 τ1 r1 (frRw_trans hfr f1)
    refine ⟨τ2, ?_, b2, b3⟩
    rw [bs, C2g16 (G1700 hS), bs, c_o (G1710 hS), bs, a1, xb_mk]
    exact b1
theorem k_w_6 (hF : 65536 < F) (hc : KT c) (hr : STr fs s on R ST) (hN : SLN s.2.2.1.length (tB fs s.2.2.1)) (hfe : fe3 < 2 ^ 62) (hL : LAD sk L own τ0 fs s xs ST rn ll sl C B cpf tO th NA pp ad fe3 tp sp fp0 fp1 fp2 bg0 bg1 bg2) : ∀ (d j f : Nat) (τ : px_TT), j + d = 3 → d < f → rF sk L τ → fF τ0 τ → ∃ τ', f_Filler_write_6 F c f 1710 (nI j) (cH sk L τ) = some ((), cH sk L τ') ∧ rF sk L τ' ∧ fF τ0 τ' := by
  intro d
  induction d with
  | zero =>
    intro j f τ hj hf h hfr
    obtain ⟨f, rfl⟩ : ∃ x, f = x + 1 := ⟨f - 1, by omega⟩
    unfold f_Filler_write_6
    rw [if_pos (nI_le (by omega) (by omega))]
    exact k_w_43 hF hc hr hN hfe hL h hfr
  | succ d ih =>
    intro j f τ hj hf h hfr
    obtain ⟨f, rfl⟩ : ∃ x, f = x + 1 := ⟨f - 1, by omega⟩
    have hL1 := LAD_Z hL (frZ_F hfr)
    have hS := hL1.1.1.1
    have hR := hL1.1.1.2.1
    have next : ∀ τ1, rF sk L τ1 → fF τ0 τ1 → ∃ τ', f_Filler_write_37 F c (f_Filler_write_6 F c f) 1710 (nI j) (cH sk L τ1) = some ((), cH sk L τ') ∧ rF sk L τ' ∧ fF τ0 τ' := fun τ1 h1 f1 => by
      unfold f_Filler_write_37
      rw [nI_add]
      exact ih (j + 1) f τ1 (by omega) (by omega) h1 f1
    unfold f_Filler_write_6
    rw [if_neg (nI_ge (by omega) (by omega)), C1r1 (G1710 hS) (GR_r (v := 1700) hR (by decide)), bs, C2r4 (G1700 hS) (GR_r (v := 1703) hR (by decide)), bs, c_aI (G1703 hS) (by decide) (by decide) (by omega), bs]
    split
    · exact next τ h hfr
    · obtain ⟨τ1, a1, r1, f1⟩ := k_writeRow (F := F) (c := c) (j := j) (a := nI 1) (b := nI ([5, 4, 6].getD j 0)) (w := (4096 : Int64)) hF hS hR (by omega) h
      rw [xkI_at hc.2.1.2 (by decide) hc.2.1.1 (by decide) (by show j < 3; omega), bs, c_o (G1710 hS), bs, a1, xb_mk]
      exact next τ1 r1 (frRw_trans hfr f1)
theorem k_write (hF : 65536 < F) (hc : KT c) (hr : STr fs s on R ST) (hN : SLN s.2.2.1.length (tB fs s.2.2.1)) (hfe : fe3 < 2 ^ 62) (hL : LAD sk L own τ0 fs s xs ST rn ll sl C B cpf tO th NA pp ad fe3 tp sp fp0 fp1 fp2 bg0 bg1 bg2) (hst : isNm τ0 1696 wST) (h : rF sk L τ0) : ∃ τ', f_Filler_write F c 1710 (cH sk L τ0) = some ((), cH sk L τ') ∧ rF sk L τ' ∧ fF τ0 τ' := by
  obtain ⟨τ1, a1, r1, f1⟩ := k_writeHead (F := F) (c := c) hF hc hL.1.1 hst hL.2.2.2.1.1 h
  obtain ⟨τ2, b1, b2, b3⟩ := k_w_6 (F := F) (c := c) hF hc hr hN hfe hL 3 0 F τ1 rfl (by omega) r1 f1
  refine ⟨τ2, ?_, b2, b3⟩
  unfold f_Filler_write
  rw [c_o (G1710 hL.1.1.1), bs, a1, xb_mk]
  exact b1
end CWS
end
section
/-! what the class puts at a site -/
theorem fit32 {v : Int64} : (v = v.toInt32.toInt64) ↔ ((-2147483648 : Int64) ≤ v ∧ v ≤ (2147483647 : Int64)) := by
  rw [← Int64.toInt_inj, Int32.toInt_toInt64, Int64.toInt_toInt32, Int64.le_iff_toInt_le, Int64.le_iff_toInt_le, show (-2147483648 : Int64).toInt = -2147483648 from by decide, show (2147483647 : Int64).toInt = 2147483647 by decide]
  constructor
  · intro e
    have h1 := Int.le_bmod (x := v.toInt) (m := 2 ^ 32) (by decide)
    have h2 := Int.bmod_lt (x := v.toInt) (m := 2 ^ 32) (by decide)
    omega
  · intro h
    exact (Int.bmod_eq_of_le (by omega) (by omega)).symm
theorem fit_rov {v : Int64} : decide (v = v.toInt32.toInt64) = !(decide (v < (-2147483648 : Int64)) || !decide (v ≤ (2147483647 : Int64))) := by
  have e : (v < (-2147483648 : Int64)) ↔ ¬ ((-2147483648 : Int64) ≤ v) := by rw [Int64.lt_iff_toInt_lt, Int64.le_iff_toInt_le]; omega
  by_cases c : v = v.toInt32.toInt64
  · obtain ⟨h1, h2⟩ := fit32.mp c
    rw [decide_eq_true c, decide_eq_false (fun q => e.mp q h1), decide_eq_true h2]; rfl
  · rw [decide_eq_false c]
    by_cases c1 : (-2147483648 : Int64) ≤ v
    · have c2 : ¬ v ≤ (2147483647 : Int64) := fun q => c (fit32.mpr ⟨c1, q⟩)
      rw [decide_eq_false c2, Bool.not_false, Bool.or_true]; rfl
    · rw [decide_eq_true (e.mpr c1), Bool.true_or]; rfl
section CFS
variable {F : Nat} {c : px_CT} {sk : Nat → Nat × Nat × Nat} {L : Nat} {τ : px_TT} {own : Nat → Nat × Nat} {fs : px_FS} {s : px_TK} {xs : px_NL} {ST rn : Nat → Bool} {C B : Nat → Nat} {ll sl cpf : List Nat} {tO : Nat → Nat} {th : Nat → Bool} {NA : Nat → Int64} {pp : Nat} {ad : Nat → Nat} {fe3 tp sp fp0 fp1 fp2 bg0 bg1 bg2 : Nat} {on : Bool} {R rn0 : Nat → Bool} {t i j : Nat}
/-- how many bytes, and whether what comes there fits -/
theorem k_fs_226 {p w : Nat} {a3 a7 : Int32} {v : Int64} {how : Nat} (hF : 65536 < F) (hS : GS sk L) (hR : GR τ) (h : rF sk L τ) (hw : w = 4 ∨ w = 8) (hh : how < 2 ^ 31) (hx : ∃ u, f_Filler_spotOf F c 1710 (some p) (cH sk L τ) = some (u, cH sk L τ)) : ∃ τ', f_Filler_fillSite_226 F c 1710 (some p) (nI how) (nI w) a7 v (cH sk L τ) = some (bI (decide (w = 8) || (if how = 10 then decide (((v.toUInt64 >>> ((nI 32).toInt64.toUInt64 &&& Int64.toUInt64 63)).toInt64) = lN 0) else decide (v = v.toInt32.toInt64))), cH sk L τ') ∧ rF sk L τ' ∧ fF τ τ' := by
  obtain ⟨u, ku⟩ := hx
  obtain ⟨τ1, a1, r1, f1⟩ := k_setS (F := F) (c := c) (v := v) (k := w) (p := u + a7) (by omega) (by omega) h
  refine ⟨τ1, ?_, r1, f1⟩
  have e285 : ∀ b : Bool, f_Filler_fillSite_285 F c (nI w) (bI b) (cH sk L τ1) = some (bI (decide (w = 8) || b), cH sk L τ1) := fun b => by
    unfold f_Filler_fillSite_285 f_Filler_fillSite_299 f_Filler_fillSite_304
    cases b with
    | false =>
      rw [if_pos (show bI false = 0 from rfl), xz_1, xz_0, Bool.or_false]
      rcases hw with e | e
      · subst e; rfl
      · subst e; rfl
    | true => rw [if_neg (show ¬ bI true = 0 by decide), xz_1, Bool.or_true]
  unfold f_Filler_fillSite_226
  rw [C1r4 (G1710 hS) (GR_r (v := 1711) hR (by decide)), bs, c_o (G1710 hS), bs, ku, xb_mk, c_o h.1, bs, a1, xb_mk]
  by_cases c1 : how = 10
  · rw [if_pos (show nI how = nI 10 by rw [c1]), if_pos c1]
    by_cases c2 : ((v.toUInt64 >>> ((nI 32).toInt64.toUInt64 &&& Int64.toUInt64 63)).toInt64) = lN 0
    · rw [if_pos c2, decide_eq_true c2]; exact e285 true
    · rw [if_neg c2, decide_eq_false c2]; exact e285 false
  · rw [if_neg (fun q => c1 ((nI_eq hh (by decide)).mp q)), if_neg c1]
    by_cases c2 : v = v.toInt32.toInt64
    · rw [if_pos c2, decide_eq_true c2]; exact e285 true
    · rw [if_neg c2, decide_eq_false c2]; exact e285 false
theorem k_kindOf {q g base n : Nat} {S : Nat → Int32} (hs : cS sk L τ q g base n S) (hF : 8 < F) (hj : j < oM (cb S base n)) : f_ObjectFile_kindOf F c q (nI j) (cH sk L τ) = some (nI (cb S base n (yP (cb S base n) j + 4) % 16), cH sk L τ) := by
  obtain ⟨e1, e2, e3⟩ := cS_y hs hj
  have hb := cb_lt S base n (yP (cb S base n) j + 4)
  unfold f_ObjectFile_kindOf
  rw [C7g10 hs.1.1.1.1, bs, c_o hs.1.1.1.1, bs, e1, pk_mul, nI_add, nI_add, show oP (cb S base n) (oY (cb S base n)) + 24 * j = yP (cb S base n) j from rfl, k_num hs.1.1.1 hF (by decide) (by omega), nm_in (by omega), xb_mk, le_1, lN_i, pk_andN (by omega) 4 (by decide)]
/-- with what a site of a section that stays names, that stays -/
theorem reach_st {T : Nat} {tb : Nat → Nat → Nat} {dr : Nat → Bool} {x : Nat} (hro : RRo T tb dr xs on R rn0) (ht : t < T) (h1 : 1 ≤ i) (hi : i < oS (tb t)) (hs : isS (tb t) i = true) (hj : j < sN (tb t) i) (hH : sH (tb t) i j ≠ 0) (hst : sta tb dr on R t (oI (tb t) i) = true) (hx : secY tb dr xs t (sY (tb t) i j) = some x) : (!on || R x) = true := by
  cases eo : on with
  | false => rfl
  | true =>
    obtain ⟨h2, _⟩ := hro eo
    have hR1 : R (24 * t + oI (tb t) i) = true := by
      unfold sta at hst
      rw [eo] at hst
      simp only [Bool.and_eq_true, Bool.not_true, Bool.false_or] at hst
      exact hst.2.2
    have hr1 := (h2 _).mp hR1
    show R x = true
    exact (h2 x).mpr (fun P hP hcl => hcl t i j ht h1 hi hs hj hH (hr1 P hP hcl) x hx)
theorem k_sumFor {how A : Nat} (hF : 65536 < F) (hL : LAc sk L own τ fs s xs ST rn ll C B cpf tO pp ad) (hr : STr fs s on R ST) (hW : WP s.2.2.1.length (tB fs s.2.2.1) s.2.1.1 xs) (hNA : ∀ i, i < xs.length → fJ τ (pN τ 149 i) 14 = NA i) (ht : t < s.2.2.1.length) (hj : j < oM (tB fs s.2.2.1 t)) (hh : how < 2 ^ 31) (hA : A < 2 ^ 64) (hst : ∀ x, secY (tB fs s.2.2.1) s.2.1.1 xs t j = some x → (!on || R x) = true) : f_Filler_sumFor F c 1710 (nI how) (nI t) (nI j) (lN A) (cH sk L τ) = some (if (how = 1 ∨ how = 10 ∨ how = 11) ∧ ofS (tB fs s.2.2.1) s.2.1.1 (sta (tB fs s.2.2.1) s.2.1.1 on R) t j = true then lN (pp + baN B (pf0 B tO (tB fs s.2.2.1) ll) (tO t + oP (tB fs s.2.2.1 t) (yW (tB fs s.2.2.1 t) j)) (oZ (tB fs s.2.2.1 t) (yW (tB fs s.2.2.1 t) j)) ((yV (tB fs s.2.2.1 t) j + A) % 2 ^ 64)) else syA (tB fs s.2.2.1) xs (ownV B (pf0 B tO (tB fs s.2.2.1) ll) tO (tB fs s.2.2.1) s.2.1.1 (sta (tB fs s.2.2.1) s.2.1.1 on R) pp ad) NA t j + lN A, cH sk L τ) := by
  have hS := hL.1.1
  have hR := hL.1.2.1
  have hT := BK_T (s := s) hL.1.2.2.2.2.1.1
  obtain ⟨q, hq, hq64, hD, hcb, he, hpe, hsy, _⟩ := TKe_ob hL.1 ht
  obtain ⟨kn, kp, hj64⟩ := k_nameOf2 (F := F) (c := c) hL.1 ht hj
  have ko := k_object (F := F) (c := c) hL.1 hq
  have ksa := k_symbolAddress (F := F) (c := c) (NA := NA) hF hL hr hNA ht hj
  have kpo := k_partOf (F := F) (c := c) hL.1 (by omega) hW ht hj
  have hjm : j < oM (cb (eI τ 8) (bsO fs q) (tNf fs s.2.2.1 t)) := by rw [hcb]; exact hj
  have kk := k_kindOf (F := F) (c := c) hD.1 (by omega) hjm
  have kv := k_valueOf (F := F) (c := c) hD.1 (by omega) hjm
  rw [hcb] at kk kv
  have hq7 : ob sk L 7 (10 + 2 * q) := hD.1.1.1.1.1
  have hS24 := (eObj_0 he).1.1.2.1.2
  generalize eSA : syA (tB fs s.2.2.1) xs (ownV B (pf0 B tO (tB fs s.2.2.1) ll) tO (tB fs s.2.2.1) s.2.1.1 (sta (tB fs s.2.2.1) s.2.1.1 on R) pp ad) NA t j = SA at *
  have e108 : f_Filler_sumFor_108 F c 1710 (nI t) (nI j) (lN A) (cH sk L τ) = some (SA + lN A, cH sk L τ) := by
    unfold f_Filler_sumFor_108
    rw [C1r1 (G1710 hS) (GR_r (v := 1700) hR (by decide)), bs, c_o (G1700 hS), bs, ksa, xb_mk]
  unfold f_Filler_sumFor
  rw [C1r0 (G1710 hS) (GR_r (v := 147) hR (by decide)), bs, c_o (G147 hS), bs, ko, xb_mk]
  by_cases cp : how = 1 ∨ how = 10 ∨ how = 11
  · have e27 : f_Filler_sumFor_27 F c 1710 (nI t) (nI j) (lN A) (some (10 + 2 * q)) (cH sk L τ) = some (if ofS (tB fs s.2.2.1) s.2.1.1 (sta (tB fs s.2.2.1) s.2.1.1 on R) t j = true then lN (pp + baN B (pf0 B tO (tB fs s.2.2.1) ll) (tO t + oP (tB fs s.2.2.1 t) (yW (tB fs s.2.2.1 t) j)) (oZ (tB fs s.2.2.1 t) (yW (tB fs s.2.2.1 t) j)) ((yV (tB fs s.2.2.1 t) j + A) % 2 ^ 64)) else SA + lN A, cH sk L τ) := by
      unfold f_Filler_sumFor_27 f_Filler_sumFor_32
      rw [if_neg (by decide)]
      by_cases c0 : j = 0
      · have eo : ofS (tB fs s.2.2.1) s.2.1.1 (sta (tB fs s.2.2.1) s.2.1.1 on R) t j = false := by unfold ofS; rw [decide_eq_false (fun q => q.1 c0), Bool.false_and]
        rw [if_pos (show nI j ≤ 0 by rw [c0]; decide), eo, if_neg (show ¬ false = true by decide)]
        exact e108
      · rw [if_neg (show ¬ nI j ≤ 0 from nI_ge (a := 0) (by omega) (by omega)), C1r0 (G1710 hS) (GR_r (v := 147) hR (by decide)), bs, c_o (G147 hS), bs, kn, xb_mk]
        by_cases c1 : hsN (tB fs s.2.2.1 t) j = true
        · have es : syN τ (tB fs s.2.2.1 t) xs j = some (pN τ 149 (plc (yT (tB fs s.2.2.1 t) j) (xs.map Prod.fst))) := by unfold syN; rw [if_pos c1]
          have hc := of_decide_eq_true c1
          have eo : ofS (tB fs s.2.2.1) s.2.1.1 (sta (tB fs s.2.2.1) s.2.1.1 on R) t j = false := by unfold ofS; rw [decide_eq_false (fun q => hc.2.2 q.2.1), Bool.false_and]
          rw [es, eo, if_neg (by decide)]
          exact e108
        · have es : syN τ (tB fs s.2.2.1 t) xs j = none := by unfold syN; rw [if_neg c1]
          have hyB : yB (tB fs s.2.2.1 t) j = 0 := by
            rcases Nat.eq_zero_or_pos (yB (tB fs s.2.2.1 t) j) with e | e
            · exact e
            · exact absurd (decide_eq_true (⟨by omega, hj, by omega⟩ : 1 ≤ j ∧ j < oM (tB fs s.2.2.1 t) ∧ yB (tB fs s.2.2.1 t) j ≠ 0)) c1
          rw [es]
          show ((some (10 + 2 * q)).bind fun p5 => _) = _
          rw [bs, c_o hq7, bs, kk, xb_mk]
          have hk16 : tB fs s.2.2.1 t (yP (tB fs s.2.2.1 t) j + 4) % 16 < 16 := Nat.mod_lt _ (by decide)
          by_cases c3 : tB fs s.2.2.1 t (yP (tB fs s.2.2.1 t) j + 4) % 16 = 3
          · rw [if_pos (show nI _ = nI 3 by rw [c3]), C1r0 (G1710 hS) (GR_r (v := 147) hR (by decide)), bs, c_o (G147 hS), bs, kpo, xb_mk]
            have eY : secY (tB fs s.2.2.1) s.2.1.1 xs t j = secT (tB fs s.2.2.1) s.2.1.1 t (wNo s.2.1.1 t (tB fs s.2.2.1 t) j) := by unfold secY; rw [if_neg c0, if_pos hyB]
            have eoS : ofS (tB fs s.2.2.1) s.2.1.1 (sta (tB fs s.2.2.1) s.2.1.1 on R) t j = (isN (tB fs s.2.2.1) t (wNo s.2.1.1 t (tB fs s.2.2.1 t) j) && (sta (tB fs s.2.2.1) s.2.1.1 on R t (wNo s.2.1.1 t (tB fs s.2.2.1 t) j) && oStr (tB fs s.2.2.1 t) (wNo s.2.1.1 t (tB fs s.2.2.1 t) j))) := by unfold ofS; rw [decide_eq_true (⟨c0, hyB, c3⟩ : j ≠ 0 ∧ yB (tB fs s.2.2.1 t) j = 0 ∧ tB fs s.2.2.1 t (yP (tB fs s.2.2.1 t) j + 4) % 16 = 3), Bool.true_and]
            have eNT := isN_T (t := t) (tb := tB fs s.2.2.1) (dr := s.2.1.1) (k := j) hS24
            rw [eoS, eNT]
            cases eT : secT (tB fs s.2.2.1) s.2.1.1 t (wNo s.2.1.1 t (tB fs s.2.2.1 t) j) with
            | none =>
              rw [eY, eT]
              show f_Filler_sumFor_108 F c 1710 (nI t) (nI j) (lN A) (cH sk L τ) = _
              rw [e108, show (none : Option Nat).isSome = false from rfl, Bool.false_and, if_neg (show ¬ false = true by decide)]
            | some x =>
              have hxT := eT
              unfold secT at hxT
              by_cases cc : 0 < wNo s.2.1.1 t (tB fs s.2.2.1 t) j ∧ wNo s.2.1.1 t (tB fs s.2.2.1 t) j < oS (tB fs s.2.2.1 t) ∧ oK (tB fs s.2.2.1 t) (wNo s.2.1.1 t (tB fs s.2.2.1 t) j) = true ∧ s.2.1.1 (24 * t + wNo s.2.1.1 t (tB fs s.2.2.1 t) j) = false
              · rw [if_pos cc] at hxT
                have hx : x = 24 * t + wNo s.2.1.1 t (tB fs s.2.2.1 t) j := (Option.some.inj hxT).symm
                have ew : wNo s.2.1.1 t (tB fs s.2.2.1 t) j = yW (tB fs s.2.2.1 t) j := by
                  have h0 := cc.1
                  unfold wNo at h0 ⊢
                  split
                  · rename_i hh; rw [if_pos hh] at h0; omega
                  · rfl
                rw [ew] at cc hx ⊢
                have hx24 : x < 24 * s.2.2.1.length := by omega
                have hRx := hst x (by rw [eY]; exact eT)
                have hkp : kpB (tB fs s.2.2.1 t) (yW (tB fs s.2.2.1 t) j) = true := by unfold kpB; rw [decide_eq_true cc.2.1, cc.2.2.1]; rfl
                have hSTx : ST x = true := by
                  rw [hx, STr_i hr ht _ (by omega), hkp, cc.2.2.2, ← hx, hRx]; rfl
                have hsta : sta (tB fs s.2.2.1) s.2.1.1 on R t (yW (tB fs s.2.2.1 t) j) = true := by
                  unfold sta
                  rw [cc.2.2.1, cc.2.2.2, ← hx, hRx]; rfl
                have hp8 := (TKe_part hL.1 hx24).1
                have p10 := (TKe_pt hL.1 hL.2.1.1 hx24 hSTx).2.2.2.2.1
                have esx : sS (tB fs s.2.2.1) x = oStr (tB fs s.2.2.1 t) (yW (tB fs s.2.2.1 t) j) := by unfold sS; rw [hx, show (24 * t + yW (tB fs s.2.2.1 t) j) / 24 = t by omega, show (24 * t + yW (tB fs s.2.2.1 t) j) % 24 = yW (tB fs s.2.2.1 t) j by omega]
                have epx : pS tO (tB fs s.2.2.1) x = tO t + oP (tB fs s.2.2.1 t) (yW (tB fs s.2.2.1 t) j) := by unfold pS; rw [hx, show (24 * t + yW (tB fs s.2.2.1 t) j) / 24 = t by omega, show (24 * t + yW (tB fs s.2.2.1 t) j) % 24 = yW (tB fs s.2.2.1 t) j by omega]
                have ezx : zS (tB fs s.2.2.1) x = oZ (tB fs s.2.2.1 t) (yW (tB fs s.2.2.1 t) j) := by unfold zS; rw [hx, show (24 * t + yW (tB fs s.2.2.1 t) j) / 24 = t by omega, show (24 * t + yW (tB fs s.2.2.1 t) j) % 24 = yW (tB fs s.2.2.1 t) j by omega]
                rw [hsta, eY, eT]
                show ((xgI (cH sk L τ) 8 10 (152 + x)).bind fun t12 => _) = some (if (true && (true && oStr (tB fs s.2.2.1 t) (yW (tB fs s.2.2.1 t) j))) = true then _ else _, _)
                rw [C8g10 hp8, bs, p10, esx, Bool.true_and, Bool.true_and]
                cases eo : oStr (tB fs s.2.2.1 t) (yW (tB fs s.2.2.1 t) j) with
                | false =>
                  rw [if_pos (show bI false = 0 from rfl), if_neg (by decide)]
                  exact e108
                | true =>
                  have ka := k_addressIn (F := F) (c := c) (x := x) (V := (yV (tB fs s.2.2.1 t) j + A) % 2 ^ 64) hF hL hx24 (Nat.mod_lt _ (by decide))
                  have eA : adV ST B (pf0 B tO (tB fs s.2.2.1) ll) tO (tB fs s.2.2.1) pp ad x ((yV (tB fs s.2.2.1 t) j + A) % 2 ^ 64) = lN (pp + baN B (pf0 B tO (tB fs s.2.2.1) ll) (tO t + oP (tB fs s.2.2.1 t) (yW (tB fs s.2.2.1 t) j)) (oZ (tB fs s.2.2.1 t) (yW (tB fs s.2.2.1 t) j)) ((yV (tB fs s.2.2.1 t) j + A) % 2 ^ 64)) := by
                    unfold adV
                    rw [if_pos hSTx, if_pos (by rw [esx]; exact eo), epx, ezx]
                  rw [eA] at ka
                  rw [if_neg (show ¬ bI true = 0 by decide), if_pos rfl, C1r2 (G1710 hS) (GR_r (v := 1697) hR (by decide)), bs, c_o hq7, bs, kv, xb_mk, c_o (G1697 hS), bs, lN_add, lN_mod (yV (tB fs s.2.2.1 t) j + A), ka, xb_mk]
              · rw [if_neg cc] at hxT; cases hxT
          · have eo : ofS (tB fs s.2.2.1) s.2.1.1 (sta (tB fs s.2.2.1) s.2.1.1 on R) t j = false := by unfold ofS; rw [decide_eq_false (fun q => c3 q.2.2), Bool.false_and]
            rw [if_neg (fun q => c3 ((nI_eq (by omega) (by decide)).mp q)), eo, if_neg (by decide)]
            exact e108
    have eR : (if (how = 1 ∨ how = 10 ∨ how = 11) ∧ ofS (tB fs s.2.2.1) s.2.1.1 (sta (tB fs s.2.2.1) s.2.1.1 on R) t j = true then lN (pp + baN B (pf0 B tO (tB fs s.2.2.1) ll) (tO t + oP (tB fs s.2.2.1 t) (yW (tB fs s.2.2.1 t) j)) (oZ (tB fs s.2.2.1 t) (yW (tB fs s.2.2.1 t) j)) ((yV (tB fs s.2.2.1 t) j + A) % 2 ^ 64)) else SA + lN A) = (if ofS (tB fs s.2.2.1) s.2.1.1 (sta (tB fs s.2.2.1) s.2.1.1 on R) t j = true then lN (pp + baN B (pf0 B tO (tB fs s.2.2.1) ll) (tO t + oP (tB fs s.2.2.1 t) (yW (tB fs s.2.2.1 t) j)) (oZ (tB fs s.2.2.1 t) (yW (tB fs s.2.2.1 t) j)) ((yV (tB fs s.2.2.1 t) j + A) % 2 ^ 64)) else SA + lN A) := by
      by_cases c2 : ofS (tB fs s.2.2.1) s.2.1.1 (sta (tB fs s.2.2.1) s.2.1.1 on R) t j = true
      · rw [if_pos ⟨cp, c2⟩, if_pos c2]
      · rw [if_neg (fun q => c2 q.2), if_neg c2]
    rw [eR, e27]
    by_cases h1 : how = 1
    · rw [if_pos (show nI how = nI 1 by rw [h1])]
    · rw [if_neg (fun q => h1 ((nI_eq hh (by decide)).mp q))]
      by_cases h2 : how = 10
      · rw [if_pos (show nI how = nI 10 by rw [h2])]
      · rw [if_neg (fun q => h2 ((nI_eq hh (by decide)).mp q)), if_pos (show nI how = nI 11 by rw [show how = 11 by omega])]
  · rw [if_neg (fun q => cp (Or.inl ((nI_eq hh (by decide)).mp q))), if_neg (fun q => cp (Or.inr (Or.inl ((nI_eq hh (by decide)).mp q)))), if_neg (fun q => cp (Or.inr (Or.inr ((nI_eq hh (by decide)).mp q))))]
    unfold f_Filler_sumFor_32
    rw [if_pos (show nI 0 = 0 from rfl), e108]
    have eR : (if (how = 1 ∨ how = 10 ∨ how = 11) ∧ ofS (tB fs s.2.2.1) s.2.1.1 (sta (tB fs s.2.2.1) s.2.1.1 on R) t j = true then lN (pp + baN B (pf0 B tO (tB fs s.2.2.1) ll) (tO t + oP (tB fs s.2.2.1 t) (yW (tB fs s.2.2.1 t) j)) (oZ (tB fs s.2.2.1 t) (yW (tB fs s.2.2.1 t) j)) ((yV (tB fs s.2.2.1 t) j + A) % 2 ^ 64)) else SA + lN A) = SA + lN A := if_neg (fun q => cp q.1)
    rw [eR]
end CFS
end
