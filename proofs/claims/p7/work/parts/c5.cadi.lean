/-! the class's addressIn is the document's -/
section CAP
variable {C B : Nat → Nat} {A p Z : Nat}
theorem nxt_rel (hb : ∀ i, i < Z → C (A + i) = B (p + i)) : ∀ (d j : Nat), j + d ≤ Z → nxt C A j d = nxt B p j d := by
  intro d
  induction d with
  | zero => intro j _; rfl
  | succ d ih =>
    intro j hj
    rw [nxt_s, nxt_s, hb j (by omega), ih (j + 1) (by omega)]
theorem st_rel {V : Nat} (hA : A + Z ≤ 65536) (hp : p + Z ≤ 65536) (hb : ∀ i, i < Z → C (A + i) = B (p + i)) (hz : B (p + (Z - 1)) = 0) (hV : V < Z) : st C (frm C A (nxt B p V (Z - V))) = st B (frm B p (nxt B p V (Z - V))) := by
  obtain ⟨m1, m2, m3⟩ := nxt_0 (B := B) (p := p) hz (Z - V) V (by omega) (by omega)
  generalize nxt B p V (Z - V) = m at *
  have s1 := frm_st (C := C) (A := A) (j := m) (by omega) (by rw [hb m m3]; exact m1)
  have s2 := frm_st (C := B) (A := p) (j := m) (by omega) m1
  obtain ⟨k, k1, k2, k3⟩ := frm_rel (C := C) (B := B) (A := A) (p := p) m (fun i hi => hb i (by omega))
  rw [k2] at s1 ⊢
  rw [k3] at s2 ⊢
  refine isSt_text s1 s2 (by omega) (fun i hi => ?_)
  rw [Nat.add_assoc, Nat.add_assoc]
  exact hb (k + i) (by omega)
end CAP
/-- the strings' sections as the class has them and as the reference has them -/
def CBR (C B : Nat → Nat) (cA tO : Nat → Nat) (tb : Nat → Nat → Nat) (ll : List Nat) : Prop := ∀ x, x ∈ ll → sS tb x = true → cA x + zS tb x ≤ 65536 ∧ pS tO tb x + zS tb x ≤ 65536 ∧ (∀ i, i < zS tb x → C (cA x + i) = B (pS tO tb x + i)) ∧ B (pS tO tb x + (zS tb x - 1)) = 0
theorem ndB_0 {B : Nat → Nat} {tO : Nat → Nat} {tb : Nat → Nat → Nat} {ll : List Nat} (hin : ∀ x, x ∈ ll → sS tb x = true → pS tO tb x + zS tb x ≤ 65536) : ndB B (nd0 B tO tb ll) := fun w hw => by
  rcases nd0_char (B := B) (tO := tO) (tb := tb) (ll := ll) ll [[]] (fun x h => h) (fun w hw => Or.inl (List.mem_singleton.mp hw)) w hw with e | ⟨x, j, y, x1, x2, x3, x4, x5, x6, x7⟩
  · exact ⟨65536, by decide, by rw [e]; rfl⟩
  · exact ⟨y, by have := hin x x1 x2; omega, x7⟩
/-- byte V of section x -/
def adV (ST : Nat → Bool) (B : Nat → Nat) (pf : List Nat) (tO : Nat → Nat) (tb : Nat → Nat → Nat) (pp : Nat) (ad : Nat → Nat) (x V : Nat) : Int64 := if ST x = true then (if sS tb x = true then lN (pp + baN B pf (pS tO tb x) (zS tb x) V) else lN (ad x + V)) else lN 0
/-- what addressIn reads -/
def LAc (sk : Nat → Nat × Nat × Nat) (L : Nat) (own : Nat → Nat × Nat) (τ : px_TT) (fs : px_FS) (s : px_TK) (xs : px_NL) (ST rn : Nat → Bool) (ll : List Nat) (C B : Nat → Nat) (cpf : List Nat) (tO : Nat → Nat) (pp : Nat) (ad : Nat → Nat) : Prop := TKe sk L own τ fs s xs ST rn ∧ (STk fs s ST ∧ llS2 s ST ll ∧ ∀ x, x < 24 * s.2.2.1.length → ST x = true → x ∈ ll) ∧ CB τ C ∧ CPl τ C cpf ∧ fJ τ 1697 5 = lN pp ∧ pp < 2 ^ 40 ∧ (∀ x, x ∈ ll → sS (tB fs s.2.2.1) x = false → fJ τ (152 + x) 11 = lN (ad x)) ∧ (cpf.map (st C) = (pf0 B tO (tB fs s.2.2.1) ll).map (st B) ∧ CBR C B (cAd fs s.2.2.1 (tB fs s.2.2.1)) tO (tB fs s.2.2.1) ll)
section CAQ
variable {F : Nat} {c : px_CT} {sk : Nat → Nat × Nat × Nat} {L : Nat} {τ τ' : px_TT} {own : Nat → Nat × Nat} {fs : px_FS} {s : px_TK} {xs : px_NL} {ST rn : Nat → Bool} {ll : List Nat} {C B : Nat → Nat} {cpf : List Nat} {tO : Nat → Nat} {pp : Nat} {ad : Nat → Nat}
theorem TKe_st (h : TKe sk L own τ fs s xs ST rn) {x : Nat} (hx : x < 24 * s.2.2.1.length) : fI τ (152 + x) 9 = bI (ST x) ∧ ob sk L 8 (152 + x) := ⟨(TKe_part h hx).2.1, (TKe_part h hx).1⟩
theorem k_addressIn {x V : Nat} (hF : 65536 < F) (h : LAc sk L own τ fs s xs ST rn ll C B cpf tO pp ad) (hx : x < 24 * s.2.2.1.length) (hV : V < 2 ^ 64) : f_Pool_addressIn F c 1697 (some (152 + x)) (lN V) (cH sk L τ) = some (adV ST B (pf0 B tO (tB fs s.2.2.1) ll) tO (tB fs s.2.2.1) pp ad x V, cH sk L τ) := by
  obtain ⟨h1, ⟨hk, hl, hall⟩, hcb, hpl, h5, hpp, had, hT, hrel⟩ := h
  obtain ⟨h9, hp⟩ := TKe_st h1 hx
  have hS := h1.1
  have hR := h1.2.1
  by_cases c1 : ST x = true
  · have hxl := hall x hx c1
    obtain ⟨p4, p5, p6, p7, p10, _⟩ := TKe_pt h1 hk hx c1
    have eA : adV ST B (pf0 B tO (tB fs s.2.2.1) ll) tO (tB fs s.2.2.1) pp ad x V = (if sS (tB fs s.2.2.1) x = true then lN (pp + baN B (pf0 B tO (tB fs s.2.2.1) ll) (pS tO (tB fs s.2.2.1) x) (zS (tB fs s.2.2.1) x) V) else lN (ad x + V)) := by unfold adV; rw [if_pos c1]
    rw [eA]
    rw [c1] at h9
    by_cases c2 : sS (tB fs s.2.2.1) x = true
    · obtain ⟨r1, r2, r3, r4⟩ := hrel x hxl c2
      rw [if_pos c2]
      rw [c2] at p10
      have hz16 := (TKe_Z h1 hk hl x hxl).1
      have hpz1 := psz_le cpf hpl.2.2.1.2
      have hpz2 := stL_len hpl.2.2.1
      have hn := ndB_0 (B := B) (tO := tO) (tb := tB fs s.2.2.1) (ll := ll) (fun y hy hs => (hrel y hy hs).2.1)
      have e39 : f_Pool_addressIn_39 F c 1697 (cH sk L τ) = some (lN (pp + psz B (pf0 B tO (tB fs s.2.2.1) ll)), cH sk L τ) := by
        unfold f_Pool_addressIn_39
        rw [C9g5 (G1697 hS), bs, C9g4 (G1697 hS), bs, h5, hpl.2.1, nI_l (by omega), lN_add, psz_T hT]
      by_cases c3 : V < zS (tB fs s.2.2.1) x
      · have enx := nxt_rel (C := C) (B := B) r3 (zS (tB fs s.2.2.1) x - V) V (by omega)
        have est := st_rel (V := V) r1 r2 r3 r4 c3
        obtain ⟨m1, m2, m3⟩ := nxt_0 (B := B) (p := pS tO (tB fs s.2.2.1) x) r4 (zS (tB fs s.2.2.1) x - V) V (by omega) (by omega)
        have hsm := pf0_all (B := B) (tO := tO) (tb := tB fs s.2.2.1) (ll := ll) (x := x) hn (fun y hy hs => (hrel y hy hs).2.1) hxl c2 m3 m1
        obtain ⟨y, hy⟩ := Option.isSome_iff_exists.mp hsm
        have hi24 : x % 24 < oS (tB fs s.2.2.1 (x / 24)) := (TKe_pt h1 hk hx c1).2.2.2.2.2
        have hcin := sS_cin h1 (show x / 24 < _ by omega) hi24 c2
        have hss : off fs fs.length ≤ 65536 := by
          have hb := h1.2.2.2.2.1.1
          obtain ⟨q, hq⟩ : ∃ q, s.2.2.1[x / 24]? = some q := ⟨_, List.getElem?_eq_getElem (show x / 24 < _ by omega)⟩
          obtain ⟨o, n, b, hob⟩ := (hb.2.2.2.2.2.2 q (List.mem_of_getElem? hq)).2
          exact (CF_ob h1.2.2.1 hob).2.2.2.2.1
        have ks := k_addressIn_s (F := F) (c := c) (τ := τ) (V := V) (pa := pp) (y := y) (A := cAd fs s.2.2.1 (tB fs s.2.2.1) x) (Z := zS (tB fs s.2.2.1) x) hS hR hF hcb h1.2.2.1.2.2.2.1 hss hcin hp p7 p5 h9 p10 (by rw [r3 _ (by omega)]; exact r4) hpl hpp h5 c3 (by rw [enx, peO_T (u := _) hT, est]; exact hy)
        rw [ks, enx]
        unfold baN
        rw [if_pos c3, hy]
        rfl
      · have eb : baN B (pf0 B tO (tB fs s.2.2.1) ll) (pS tO (tB fs s.2.2.1) x) (zS (tB fs s.2.2.1) x) V = psz B (pf0 B tO (tB fs s.2.2.1) ll) := by unfold baN; rw [if_neg c3]
        rw [eb]
        unfold f_Pool_addressIn
        rw [bs, C8g9 hp, bs, h9, if_neg (show ¬ bI true = 0 by decide), C8g10 hp, bs, p10, if_neg (show ¬ bI true = 0 by decide)]
        by_cases c4 : V < 2 ^ 63
        · rw [if_neg (show ¬ lN V < lN 0 from fun w => by have := (lN_neg hV).mp w; omega), C8g5 hp, bs, p5, nI_l (by omega), if_neg (show ¬ lN V < lN (zS (tB fs s.2.2.1) x) from fun w => c3 ((pk_lLT c4 (by omega)).mp w)), e39]
        · rw [if_pos ((lN_neg hV).mpr (by omega)), e39]
    · rw [if_neg c2]
      have c2' : sS (tB fs s.2.2.1) x = false := by cases hh : sS (tB fs s.2.2.1) x with | false => rfl | true => exact absurd hh c2
      rw [c2'] at p10
      unfold f_Pool_addressIn
      rw [bs, C8g9 hp, bs, h9, if_neg (show ¬ bI true = 0 by decide), C8g10 hp, bs, p10, if_pos (show bI false = 0 from rfl), C8g11 hp, bs, had x hxl c2', lN_add]
  · have c1' : ST x = false := by cases hh : ST x with | false => rfl | true => exact absurd hh c1
    have eA : adV ST B (pf0 B tO (tB fs s.2.2.1) ll) tO (tB fs s.2.2.1) pp ad x V = lN 0 := by unfold adV; rw [if_neg c1]
    rw [eA]
    rw [c1'] at h9
    unfold f_Pool_addressIn
    rw [bs, C8g9 hp, bs, h9, if_pos (show bI false = 0 from rfl)]
/-- frames that addressIn's cells bear -/
theorem LAc_J {J : Nat → Nat → Prop} (h : LAc sk L own τ fs s xs ST rn ll C B cpf tO pp ad) (f : frJE J E0 τ τ') (hJ : ∀ a k, J a k → (a = 1700) ∨ (152 ≤ a ∧ a < 1688 ∧ k = 11 ∧ sS (tB fs s.2.2.1) (a - 152) = true) ∨ (1815 ≤ a ∧ k = 14)) : LAc sk L own τ' fs s xs ST rn ll C B cpf tO pp ad := by
  obtain ⟨h1, ⟨hk, hl, hall⟩, hcb, hpl, h5, hpp, had, hT, hrel⟩ := h
  have hT4 := BK_T (s := s) h1.2.2.2.2.1.1
  have fl := frJE_Ly f (fun a k w => by have := hJ a k w; omega) (fun a i w => w.elim)
  refine ⟨TKe_Ly h1 fl, ⟨hk, hl, hall⟩, CB_Ly hcb fl, CPl_fx hpl (f.1 1697 3) (f.1 1697 4) (f.2.2.2.1 1698) (f.2.2.2.1 1699), ?_, hpp, fun x hx hs => ?_, hT, hrel⟩
  · rw [f.2.1 _ _ (fun w => by have := hJ _ _ w; omega)]; exact h5
  · have hx1 := (hl.2 x hx).1
    rw [f.2.1 _ _ (fun w => by
      rcases hJ _ _ w with q | q | q
      · omega
      · have q4 := q.2.2.2
        rw [show 152 + x - 152 = x by omega, hs] at q4
        exact absurd q4 (by decide)
      · omega)]
    exact had x hx hs
end CAQ
