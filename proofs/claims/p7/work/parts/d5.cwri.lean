/-! the file that a link writes: safe, whole -/
theorem drop_x {l : List Nat} {k x : Nat} (h : l[k]? = some x) : l.drop k = x :: l.drop (k + 1) := by
  obtain ⟨h1, h2⟩ := List.getElem?_eq_some_iff.mp h
  rw [List.drop_eq_getElem_cons h1, h2]
theorem getD_x {l : List Nat} {k x : Nat} (h : l[k]? = some x) : l.getD k 0 = x := by
  rw [List.getD_eq_getElem?_getD, h]
  rfl
/-- addresses of symbols -/
def syF (fs : px_FS) (s : px_TK) (xs : px_NL) (B tO : Nat → Nat) (ll : List Nat) (on : Bool) (R : Nat → Bool) (pp : Nat) (ad : Nat → Nat) (NA : Nat → Int64) : Nat → Nat → Int64 := syA (tB fs s.2.2.1) xs (ownV B (pf0 B tO (tB fs s.2.2.1) ll) tO (tB fs s.2.2.1) s.2.1.1 (sta (tB fs s.2.2.1) s.2.1.1 on R) pp ad) NA
/-- where a part stands in the file -/
def spV (τ : px_TT) (fs : px_FS) (s : px_TK) (x : Nat) : Int32 := ((eJ τ 1704 (sgO (oG (tB fs s.2.2.1 (x / 24)) (x % 24))) + fJ τ (152 + x) 11) - eJ τ 1705 (sgO (oG (tB fs s.2.2.1 (x / 24)) (x % 24)))).toInt32
def slP (τ : px_TT) : Int32 := ((eJ τ 1704 2 + fJ τ 1700 13) - eJ τ 1705 2).toInt32
def poP (τ : px_TT) : Int32 := ((eJ τ 1704 1 + fJ τ 1697 5) - eJ τ 1705 1).toInt32
/-- the slots -/
def slW (p : Int32) (SY : Nat → Nat → Int64) (tp : Nat) (sl : List Nat) (k d : Nat) (w : px_FW) : px_FW := itr (fun k => wSet (p + nI 8 * nI k) 8 (slV SY tp (sl.getD k 0))) k d w
/-- the strings -/
def plW (S P Lg : Nat → Int32) : Nat → Nat → Int32 → px_FW → px_FW
  | 0, _, _, w => w
  | d + 1, k, p, w => plW S P Lg d (k + 1) (p + Lg k) (wCov S 65536 p (P k) (Lg k) w)
theorem slW_s {p : Int32} {SY : Nat → Nat → Int64} {tp : Nat} {sl : List Nat} {k d : Nat} {w : px_FW} : slW p SY tp sl k (d + 1) w = slW p SY tp sl (k + 1) d (wSet (p + nI 8 * nI k) 8 (slV SY tp (sl.getD k 0)) w) := rfl
theorem slW_0 {p : Int32} {SY : Nat → Nat → Int64} {tp : Nat} {sl : List Nat} {k : Nat} {w : px_FW} : slW p SY tp sl k 0 w = w := rfl
theorem plW_s {S P Lg : Nat → Int32} {d k : Nat} {p : Int32} {w : px_FW} : plW S P Lg (d + 1) k p w = plW S P Lg d (k + 1) (p + Lg k) (wCov S 65536 p (P k) (Lg k) w) := rfl
theorem plW_0 {S P Lg : Nat → Int32} {k : Nat} {p : Int32} {w : px_FW} : plW S P Lg 0 k p w = w := rfl
/-- a part's bytes -/
def seW (τ : px_TT) (fs : px_FS) (s : px_TK) (w : px_FW) (x : Nat) : px_FW := if fI τ (152 + x) 4 = nI 3 then w else if fI τ (152 + x) 4 = nI 5 then w else if fI τ (152 + x) 10 = 0 then wCov (eI τ 8) 65536 (spV τ fs s x) (fI τ (152 + x) 7) (fI τ (152 + x) 5) w else w
/-- strings and slots -/
def psW (τ : px_TT) (SY : Nat → Nat → Int64) (tp : Nat) (sl : List Nat) (np : Nat) (w : px_FW) : px_FW := slW (slP τ) SY tp sl 0 sl.length (plW (eI τ 8) (eI τ 1698) (eI τ 1699) np 0 (poP τ) w)
def tmW (τ : px_TT) (w : px_FW) : px_FW := if eI τ 1703 3 = 0 then w else pT (rwL τ (nI 7) (nI 4) 3 (fJ τ 1700 16)) w
def rsW (τ : px_TT) (s : Nat) (w : px_FW) : px_FW := if eI τ 1703 s = 0 then w else pT (rwL τ (nI 1) (nI ([5, 4, 6].getD s 0)) s (4096 : Int64)) w
theorem rwL_fr {τ τ' : px_TT} {a b : Int32} {j : Nat} {w : Int64} (f : fF τ τ') : rwL τ' a b j w = rwL τ a b j w := by
  unfold rwL
  rw [f.2.2.2.2.1, f.2.2.2.2.1, f.2.2.2.2.1, f.2.2.2.2.1]
section CWS
variable {F : Nat} {c : px_CT} {sk : Nat → Nat × Nat × Nat} {L : Nat} {τ0 : px_TT} {own : Nat → Nat × Nat} {fs : px_FS} {s : px_TK} {xs : px_NL} {ST rn : Nat → Bool} {C B : Nat → Nat} {ll sl cpf : List Nat} {tO : Nat → Nat} {th : Nat → Bool} {NA : Nat → Int64} {pp : Nat} {ad : Nat → Nat} {fe3 tp sp fp0 fp1 fp2 bg0 bg1 bg2 : Nat} {on : Bool} {R : Nat → Bool}
theorem k_w_287 {p : Int32} (hF : 65536 < F) (hr : STr fs s on R ST) (hN : SLN s.2.2.1.length (tB fs s.2.2.1)) (hL : LAD sk L own τ0 fs s xs ST rn ll sl C B cpf tO th NA pp ad fe3 tp sp fp0 fp1 fp2 bg0 bg1 bg2) : ∀ (d k f : Nat) (τ : px_TT), k + d = sl.length → d < f → rF sk L τ → fF τ0 τ → ∃ τ', f_Filler_write_287 F c f 1710 p (nI k) (cH sk L τ) = some ((), cH sk L τ') ∧ rF sk L τ' ∧ fF τ0 τ' ∧ ∀ w, fC τ w → fC τ' (slW p (syF fs s xs B tO ll on R pp ad NA) tp sl k d w) := by
  have hns := hN _ hL.2.2.1.2
  intro d
  induction d with
  | zero =>
    intro k f τ hk hf h hfr
    obtain ⟨f, rfl⟩ : ∃ x, f = x + 1 := ⟨f - 1, by omega⟩
    have hL1 := LAD_Z hL (frZ_F hfr)
    have hS := hL1.1.1.1
    have hR := hL1.1.1.2.1
    refine ⟨τ, ?_, h, hfr, fun w hw => by rw [slW_0]; exact hw⟩
    unfold f_Filler_write_287 f_Filler_write_327
    rw [C1r1 (G1710 hS) (GR_r (v := 1700) hR (by decide)), bs, C2g12 (G1700 hS), bs, hL1.2.2.1.1.1, if_pos (nI_le (by omega) (by omega))]
  | succ d ih =>
    intro k f τ hk hf h hfr
    obtain ⟨f, rfl⟩ : ∃ x, f = x + 1 := ⟨f - 1, by omega⟩
    have hL1 := LAD_Z hL (frZ_F hfr)
    have hS := hL1.1.1.1
    have hR := hL1.1.1.2.1
    have hkl : k < sl.length := by omega
    obtain ⟨z, hz⟩ : ∃ z, sl[k]? = some z := ⟨_, List.getElem?_eq_getElem hkl⟩
    have kv : f_Layout_slotValue F c 1700 (nI k) (cH sk L τ) = some (slV (syF fs s xs B tO ll on R pp ad NA) tp (sl.getD k 0), cH sk L τ) := by
      rw [getD_x hz]
      exact k_slotValue (F := F) (c := c) (NA := NA) hF hL1.1 hr hL1.2.2.2.2.1 hL1.2.2.1.1 hL1.2.2.1.2 hL1.2.2.2.2.2.2.2.1 hz hns
    obtain ⟨τ1, a1, r1, f1, u1⟩ := k_setC (F := F) (c := c) (v := slV (syF fs s xs B tO ll on R pp ad NA) tp (sl.getD k 0)) (k := 8) (p := p + nI 8 * nI k) (by omega) (by decide) h
    obtain ⟨τ2, b1, b2, b3, b4⟩ := ih (k + 1) f τ1 (by omega) (by omega) r1 (frRw_trans hfr f1)
    refine ⟨τ2, ?_, b2, b3, fun w hw => by rw [slW_s]; exact b4 _ (u1 w hw)⟩
    unfold f_Filler_write_287
    rw [C1r1 (G1710 hS) (GR_r (v := 1700) hR (by decide)), bs, C2g12 (G1700 hS), bs, hL1.2.2.1.1.1, if_neg (nI_ge hkl (by omega)), C1r4 (G1710 hS) (GR_r (v := 1711) hR (by decide)), bs, bs, c_o (G1700 hS), bs, kv, xb_mk, c_o h.1, bs, a1, xb_mk, nI_add]
    exact b1
theorem k_w_194 (hF : 65536 < F) (hr : STr fs s on R ST) (hN : SLN s.2.2.1.length (tB fs s.2.2.1)) (hL : LAD sk L own τ0 fs s xs ST rn ll sl C B cpf tO th NA pp ad fe3 tp sp fp0 fp1 fp2 bg0 bg1 bg2) : ∀ (d k f : Nat) (p : Int32) (τ : px_TT), k + d = cpf.length → d < f → rF sk L τ → fF τ0 τ → ∃ τ', f_Filler_write_194 F c f 1710 p (nI k) (cH sk L τ) = some ((), cH sk L τ') ∧ rF sk L τ' ∧ fF τ0 τ' ∧ ∀ w, fC τ w → fC τ' (slW (slP τ0) (syF fs s xs B tO ll on R pp ad NA) tp sl 0 sl.length (plW (eI τ0 8) (eI τ0 1698) (eI τ0 1699) d k p w)) := by
  have hns := hN _ hL.2.2.1.2
  have hcl := stL_len hL.1.2.2.2.1.2.2.1
  intro d
  induction d with
  | zero =>
    intro k f p τ hk hf h hfr
    obtain ⟨f, rfl⟩ : ∃ x, f = x + 1 := ⟨f - 1, by omega⟩
    have hL1 := LAD_Z hL (frZ_F hfr)
    have hS := hL1.1.1.1
    have hR := hL1.1.1.2.1
    unfold f_Filler_write_194 f_Filler_write_256
    rw [C1r2 (G1710 hS) (GR_r (v := 1697) hR (by decide)), bs, C9g3 (G1697 hS), bs, hL1.1.2.2.2.1.1, if_pos (nI_le (by omega) (by omega)), C1r1 (G1710 hS) (GR_r (v := 1700) hR (by decide)), bs, C2r5 (G1700 hS) (GR_r (v := 1704) hR (by decide)), bs, c_aJ (G1704 hS) (by decide) (by decide), bs, bs, C2g13 (G1700 hS), bs, bs, C2r6 (G1700 hS) (GR_r (v := 1705) hR (by decide)), bs, c_aJ (G1705 hS) (by decide) (by decide), bs, hfr.2.2.2.2.1, hfr.2.1, hfr.2.2.2.2.1]
    obtain ⟨τ2, b1, b2, b3, b4⟩ := k_w_287 (F := F) (c := c) (p := slP τ0) hF hr hN hL sl.length 0 F τ (Nat.zero_add _) (by omega) h hfr
    exact ⟨τ2, b1, b2, b3, fun w hw => by rw [plW_0]; exact b4 w hw⟩
  | succ d ih =>
    intro k f p τ hk hf h hfr
    obtain ⟨f, rfl⟩ : ∃ x, f = x + 1 := ⟨f - 1, by omega⟩
    have hL1 := LAD_Z hL (frZ_F hfr)
    have hS := hL1.1.1.1
    have hR := hL1.1.1.2.1
    have hkl : k < cpf.length := by omega
    obtain ⟨τ1, a1, r1, f1, u1⟩ := k_coverC (F := F) (c := c) (p := p) (q := eI τ 1698 k) (m := eI τ 1699 k) (G8 hS) (by decide) hL1.1.2.2.1.1 h
    have hR1 := GR_Fw hR f1
    have F1 := frRw_trans hfr f1
    obtain ⟨τ2, b1, b2, b3, b4⟩ := ih (k + 1) f (p + eI τ1 1699 k) τ1 (by omega) (by omega) r1 F1
    rw [F1.2.2.2.1 1699 (by decide)] at b4
    rw [hfr.2.2.2.1 8 (by decide), hfr.2.2.2.1 1698 (by decide), hfr.2.2.2.1 1699 (by decide)] at u1
    refine ⟨τ2, ?_, b2, b3, fun w hw => by rw [plW_s]; exact b4 _ (u1 w hw)⟩
    unfold f_Filler_write_194
    rw [C1r2 (G1710 hS) (GR_r (v := 1697) hR (by decide)), bs, C9g3 (G1697 hS), bs, hL1.1.2.2.2.1.1, if_neg (nI_ge hkl (by omega)), C1r4 (G1710 hS) (GR_r (v := 1711) hR (by decide)), bs, C1r3 (G1710 hS) (GR_r (v := 7) hR (by decide)), bs, C10r0 (G7 hS) (GR_r (v := 8) hR (by decide)), bs, bs, C9r1 (G1697 hS) (GR_r (v := 1698) hR (by decide)), bs, c_aI (G1698 hS) (by decide) (by decide) (by omega), bs, bs, C9r2 (G1697 hS) (GR_r (v := 1699) hR (by decide)), bs, c_aI (G1699 hS) (by decide) (by decide) (by omega), bs, c_o h.1, bs, a1, xb_mk, C1r2 (G1710 hS) (GR_r (v := 1697) hR1 (by decide)), bs, C9r2 (G1697 hS) (GR_r (v := 1699) hR1 (by decide)), bs, c_aI (G1699 hS) (by decide) (by decide) (by omega), bs, nI_add]
    exact b1
theorem k_spotOf {τ : px_TT} {x : Nat} (hc : KT c) (hL : LAD sk L own τ fs s xs ST rn ll sl C B cpf tO th NA pp ad fe3 tp sp fp0 fp1 fp2 bg0 bg1 bg2) (hx : x < 24 * s.2.2.1.length) (hs : ST x = true) : f_Filler_spotOf F c 1710 (some (152 + x)) (cH sk L τ) = some (spV τ fs s x, cH sk L τ) := by
  have hS := hL.1.1.1
  have hR := hL.1.1.2.1
  obtain ⟨p4, _⟩ := TKe_pt hL.1.1 hL.1.2.1.1 hx hs
  have hp := (TKe_part hL.1.1 hx).1
  have hg := oG_5 (b := tB fs s.2.2.1 (x / 24)) (i := x % 24)
  have ks := k_segmentOf (F := F) (c := c) hc hp (by omega) p4
  have hsg : sgO (oG (tB fs s.2.2.1 (x / 24)) (x % 24)) < 4 := by unfold sgO; split <;> omega
  unfold f_Filler_spotOf spV
  rw [C1r1 (G1710 hS) (GR_r (v := 1700) hR (by decide)), bs, c_o (G1700 hS), bs, ks, xb_mk, C1r1 (G1710 hS) (GR_r (v := 1700) hR (by decide)), bs, C2r5 (G1700 hS) (GR_r (v := 1704) hR (by decide)), bs, c_aJ (G1704 hS) (by decide) hsg, bs, bs, C8g11 hp, bs, bs, C2r6 (G1700 hS) (GR_r (v := 1705) hR (by decide)), bs, c_aJ (G1705 hS) (by decide) hsg, bs]
theorem k_w_87 (hF : 65536 < F) (hc : KT c) (hr : STr fs s on R ST) (hN : SLN s.2.2.1.length (tB fs s.2.2.1)) (hL : LAD sk L own τ0 fs s xs ST rn ll sl C B cpf tO th NA pp ad fe3 tp sp fp0 fp1 fp2 bg0 bg1 bg2) : ∀ (d k f : Nat) (τ : px_TT), k + d = ll.length → d < f → rF sk L τ → fF τ0 τ → ∃ τ', f_Filler_write_87 F c f 1710 (nI k) (cH sk L τ) = some ((), cH sk L τ') ∧ rF sk L τ' ∧ fF τ0 τ' ∧ ∀ w, fC τ w → fC τ' (psW τ0 (syF fs s xs B tO ll on R pp ad NA) tp sl cpf.length ((ll.drop k).foldl (seW τ0 fs s) w)) := by
  have hcl := stL_len hL.1.2.2.2.1.2.2.1
  have hl1 := hL.1.2.1.2.1.1
  intro d
  induction d with
  | zero =>
    intro k f τ hk hf h hfr
    obtain ⟨f, rfl⟩ : ∃ x, f = x + 1 := ⟨f - 1, by omega⟩
    have hL1 := LAD_Z hL (frZ_F hfr)
    have hS := hL1.1.1.1
    have hR := hL1.1.1.2.1
    unfold f_Filler_write_87 f_Filler_write_163
    rw [C1r1 (G1710 hS) (GR_r (v := 1700) hR (by decide)), bs, C2g11 (G1700 hS), bs, hL1.2.1.1, if_pos (nI_le (by omega) (by omega)), bs, C2r5 (G1700 hS) (GR_r (v := 1704) hR (by decide)), bs, c_aJ (G1704 hS) (by decide) (by decide), bs, C1r2 (G1710 hS) (GR_r (v := 1697) hR (by decide)), bs, C9g5 (G1697 hS), bs, bs, C2r6 (G1700 hS) (GR_r (v := 1705) hR (by decide)), bs, c_aJ (G1705 hS) (by decide) (by decide), bs, hfr.2.2.2.2.1, hfr.2.1, hfr.2.2.2.2.1, show ll.drop k = [] from List.drop_eq_nil_of_le (by omega)]
    obtain ⟨τ2, b1, b2, b3, b4⟩ := k_w_194 (F := F) (c := c) hF hr hN hL cpf.length 0 F (poP τ0) τ (Nat.zero_add _) (by omega) h hfr
    exact ⟨τ2, b1, b2, b3, fun w hw => by rw [List.foldl_nil]; unfold psW; exact b4 w hw⟩
  | succ d ih =>
    intro k f τ hk hf h hfr
    obtain ⟨f, rfl⟩ : ∃ x, f = x + 1 := ⟨f - 1, by omega⟩
    have hL1 := LAD_Z hL (frZ_F hfr)
    have hS := hL1.1.1.1
    have hR := hL1.1.1.2.1
    have hkl : k < ll.length := by omega
    obtain ⟨x, hx⟩ : ∃ x, ll[k]? = some x := ⟨_, List.getElem?_eq_getElem hkl⟩
    have hx2 := hL1.1.2.1.2.1.2 x (List.mem_of_getElem? hx)
    have hp := (TKe_part hL1.1.1 hx2.1).1
    have kp := k_partAt (F := F) (c := c) hS hR hL1.2.1 hl1 hx
    have hT := BK_T (s := s) hL1.1.1.2.2.2.2.1.1
    have next : ∀ τ1, rF sk L τ1 → fF τ0 τ1 → (∀ w, fC τ w → fC τ1 (seW τ0 fs s w x)) → ∃ τ', f_Filler_write_157 F c (f_Filler_write_87 F c f) 1710 (nI k) (cH sk L τ1) = some ((), cH sk L τ') ∧ rF sk L τ' ∧ fF τ0 τ' ∧ ∀ w, fC τ w → fC τ' (psW τ0 (syF fs s xs B tO ll on R pp ad NA) tp sl cpf.length ((ll.drop k).foldl (seW τ0 fs s) w)) := fun τ1 h1 f1 g1 => by
      obtain ⟨τ2, b1, b2, b3, b4⟩ := ih (k + 1) f τ1 (by omega) (by omega) h1 f1
      refine ⟨τ2, ?_, b2, b3, fun w hw => ?_⟩
      · unfold f_Filler_write_157
        rw [nI_add]
        exact b1
      · rw [drop_x hx, List.foldl_cons]
        exact b4 _ (g1 w hw)
    have kv := k_spotOf (F := F) (c := c) hc hL1 hx2.1 hx2.2
    have e4 : fI τ (152 + x) 4 = fI τ0 (152 + x) 4 := hfr.1 _ _ (Or.inl (by omega))
    have e5 : fI τ (152 + x) 5 = fI τ0 (152 + x) 5 := hfr.1 _ _ (Or.inl (by omega))
    have e7 : fI τ (152 + x) 7 = fI τ0 (152 + x) 7 := hfr.1 _ _ (Or.inl (by omega))
    have e10 : fI τ (152 + x) 10 = fI τ0 (152 + x) 10 := hfr.1 _ _ (Or.inl (by omega))
    have eS : spV τ fs s x = spV τ0 fs s x := by unfold spV; rw [hfr.2.2.2.2.1, hfr.2.1, hfr.2.2.2.2.1]
    rw [eS] at kv
    obtain ⟨τ1, a1, r1, f1, u1⟩ := k_coverC (F := F) (c := c) (p := spV τ0 fs s x) (q := fI τ0 (152 + x) 7) (m := fI τ0 (152 + x) 5) (G8 hS) (by decide) hL1.1.2.2.1.1 h
    rw [hfr.2.2.2.1 8 (by decide)] at u1
    unfold f_Filler_write_87
    rw [C1r1 (G1710 hS) (GR_r (v := 1700) hR (by decide)), bs, C2g11 (G1700 hS), bs, hL1.2.1.1, if_neg (nI_ge hkl (by omega)), bs, c_o (G1700 hS), bs, kp, xb_mk, bs, C8g4 hp, bs, e4]
    by_cases d1 : fI τ0 (152 + x) 4 = nI 3
    · rw [if_pos d1]
      exact next τ h hfr (fun w hw => by unfold seW; rw [if_pos d1]; exact hw)
    · rw [if_neg d1, bs]
      by_cases d2 : fI τ0 (152 + x) 4 = nI 5
      · rw [if_pos d2]
        exact next τ h hfr (fun w hw => by unfold seW; rw [if_neg d1, if_pos d2]; exact hw)
      · rw [if_neg d2, C8g10 hp, bs, e10]
        by_cases d3 : fI τ0 (152 + x) 10 = 0
        · rw [if_pos d3, C1r4 (G1710 hS) (GR_r (v := 1711) hR (by decide)), bs, c_o (G1710 hS), bs, kv, xb_mk, C1r3 (G1710 hS) (GR_r (v := 7) hR (by decide)), bs, C10r0 (G7 hS) (GR_r (v := 8) hR (by decide)), bs, C8g7 hp, bs, C8g5 hp, bs, e7, e5, c_o h.1, bs, a1, xb_mk]
          exact next τ1 r1 (frRw_trans hfr f1) (fun w hw => by unfold seW; rw [if_neg d1, if_neg d2, if_pos d3]; exact u1 w hw)
        · rw [if_neg d3]
          exact next τ h hfr (fun w hw => by unfold seW; rw [if_neg d1, if_neg d2, if_neg d3]; exact hw)
theorem k_w_43 {τ : px_TT} (hF : 65536 < F) (hc : KT c) (hr : STr fs s on R ST) (hN : SLN s.2.2.1.length (tB fs s.2.2.1)) (hfe : fe3 < 2 ^ 62) (hL : LAD sk L own τ0 fs s xs ST rn ll sl C B cpf tO th NA pp ad fe3 tp sp fp0 fp1 fp2 bg0 bg1 bg2) (h : rF sk L τ) (hfr : fF τ0 τ) : ∃ τ', f_Filler_write_43 F c 1710 (cH sk L τ) = some ((), cH sk L τ') ∧ rF sk L τ' ∧ fF τ0 τ' ∧ (fe3 ≤ 65536 → ∀ w, fC τ w → fC τ' (psW τ0 (syF fs s xs B tO ll on R pp ad NA) tp sl cpf.length (ll.foldl (seW τ0 fs s) (wFil fe3 (nI 0).toInt8.toInt32.toInt8.toInt32 (tmW τ0 w))))) := by
  have hL1 := LAD_Z hL (frZ_F hfr)
  have hS := hL1.1.1.1
  have hR := hL1.1.1.2.1
  have hl1 := hL.1.2.1.2.1.1
  have e70 : ∀ τ1, rF sk L τ1 → fF τ0 τ1 → ∃ τ', f_Filler_write_70 F c 1710 (cH sk L τ1) = some ((), cH sk L τ') ∧ rF sk L τ' ∧ fF τ0 τ' ∧ (fe3 ≤ 65536 → ∀ w, fC τ1 w → fC τ' (psW τ0 (syF fs s xs B tO ll on R pp ad NA) tp sl cpf.length (ll.foldl (seW τ0 fs s) (wFil fe3 (nI 0).toInt8.toInt32.toInt8.toInt32 w)))) := fun τ1 h1 f1 => by
    have hL2 := LAD_Z hL (frZ_F f1)
    have hR2 := hL2.1.1.2.1
    obtain ⟨τ2, a1, r1, g1, u1⟩ := k_fillToC (F := F) (c := c) (e := fe3) (x := nI 0) hF hfe h1
    obtain ⟨τ3, b1, b2, b3, b4⟩ := k_w_87 (F := F) (c := c) hF hc hr hN hL ll.length 0 F τ2 (Nat.zero_add _) (by omega) r1 (frRw_trans f1 g1)
    refine ⟨τ3, ?_, b2, b3, fun q w hw => by have z := b4 _ (u1 q w hw); rw [List.drop_zero] at z; exact z⟩
    unfold f_Filler_write_70
    rw [C1r4 (G1710 hS) (GR_r (v := 1711) hR2 (by decide)), bs, C1r1 (G1710 hS) (GR_r (v := 1700) hR2 (by decide)), bs, C2g18 (G1700 hS), bs, hL2.2.2.2.2.2.2.2.2.1, c_o h1.1, bs, a1, xb_mk]
    exact b1
  unfold f_Filler_write_43
  rw [C1r1 (G1710 hS) (GR_r (v := 1700) hR (by decide)), bs, C2r4 (G1700 hS) (GR_r (v := 1703) hR (by decide)), bs, c_aI (G1703 hS) (by decide) (by decide) (by decide), bs]
  have e3 : eI τ 1703 3 = eI τ0 1703 3 := by rw [hfr.2.2.2.1 1703 (by decide)]
  rw [e3]
  by_cases d3 : eI τ0 1703 3 = 0
  · rw [if_pos d3]
    obtain ⟨τ2, b1, b2, b3, b4⟩ := e70 τ h hfr
    exact ⟨τ2, b1, b2, b3, fun q w hw => by unfold tmW; rw [if_pos d3]; exact b4 q w hw⟩
  · rw [if_neg d3]
    obtain ⟨τ1, a1, r1, f1, u1⟩ := k_writeRow (F := F) (c := c) (j := 3) (a := nI 7) (b := nI 4) (w := fJ τ 1700 16) hF hS hR (by decide) h
    obtain ⟨τ2, b1, b2, b3, b4⟩ := e70 τ1 r1 (frRw_trans hfr f1)
    refine ⟨τ2, ?_, b2, b3, fun q w hw => ?_⟩
    · rw [bs, C2g16 (G1700 hS), bs, c_o (G1710 hS), bs, a1, xb_mk]
      exact b1
    · unfold tmW
      rw [if_neg d3]
      rw [rwL_fr hfr, hfr.2.1] at u1
      exact b4 q _ (u1 w hw)
theorem k_w_6 (hF : 65536 < F) (hc : KT c) (hr : STr fs s on R ST) (hN : SLN s.2.2.1.length (tB fs s.2.2.1)) (hfe : fe3 < 2 ^ 62) (hL : LAD sk L own τ0 fs s xs ST rn ll sl C B cpf tO th NA pp ad fe3 tp sp fp0 fp1 fp2 bg0 bg1 bg2) : ∀ (d j f : Nat) (τ : px_TT), j + d = 3 → d < f → rF sk L τ → fF τ0 τ → ∃ τ', f_Filler_write_6 F c f 1710 (nI j) (cH sk L τ) = some ((), cH sk L τ') ∧ rF sk L τ' ∧ fF τ0 τ' ∧ (fe3 ≤ 65536 → ∀ w, fC τ w → fC τ' (psW τ0 (syF fs s xs B tO ll on R pp ad NA) tp sl cpf.length (ll.foldl (seW τ0 fs s) (wFil fe3 (nI 0).toInt8.toInt32.toInt8.toInt32 (tmW τ0 (itr (rsW τ0) j d w)))))) := by
  intro d
  induction d with
  | zero =>
    intro j f τ hj hf h hfr
    obtain ⟨f, rfl⟩ : ∃ x, f = x + 1 := ⟨f - 1, by omega⟩
    unfold f_Filler_write_6
    rw [if_pos (nI_le (by omega) (by omega))]
    exact k_w_43 hF hc hr hN hfe hL h hfr
  | succ d ih =>
    intro j f τ hj hf h hfr
    obtain ⟨f, rfl⟩ : ∃ x, f = x + 1 := ⟨f - 1, by omega⟩
    have hL1 := LAD_Z hL (frZ_F hfr)
    have hS := hL1.1.1.1
    have hR := hL1.1.1.2.1
    have next : ∀ τ1, rF sk L τ1 → fF τ0 τ1 → (∀ w, fC τ w → fC τ1 (rsW τ0 j w)) → ∃ τ', f_Filler_write_37 F c (f_Filler_write_6 F c f) 1710 (nI j) (cH sk L τ1) = some ((), cH sk L τ') ∧ rF sk L τ' ∧ fF τ0 τ' ∧ (fe3 ≤ 65536 → ∀ w, fC τ w → fC τ' (psW τ0 (syF fs s xs B tO ll on R pp ad NA) tp sl cpf.length (ll.foldl (seW τ0 fs s) (wFil fe3 (nI 0).toInt8.toInt32.toInt8.toInt32 (tmW τ0 (itr (rsW τ0) j (d + 1) w)))))) := fun τ1 h1 f1 g1 => by
      obtain ⟨τ2, b1, b2, b3, b4⟩ := ih (j + 1) f τ1 (by omega) (by omega) h1 f1
      refine ⟨τ2, ?_, b2, b3, fun q w hw => by rw [itr_s]; exact b4 q _ (g1 w hw)⟩
      unfold f_Filler_write_37
      rw [nI_add]
      exact b1
    have ej : eI τ 1703 j = eI τ0 1703 j := by rw [hfr.2.2.2.1 1703 (by decide)]
    unfold f_Filler_write_6
    rw [if_neg (nI_ge (by omega) (by omega)), C1r1 (G1710 hS) (GR_r (v := 1700) hR (by decide)), bs, C2r4 (G1700 hS) (GR_r (v := 1703) hR (by decide)), bs, c_aI (G1703 hS) (by decide) (by decide) (by omega), bs, ej]
    by_cases dj : eI τ0 1703 j = 0
    · rw [if_pos dj]
      exact next τ h hfr (fun w hw => by unfold rsW; rw [if_pos dj]; exact hw)
    · obtain ⟨τ1, a1, r1, f1, u1⟩ := k_writeRow (F := F) (c := c) (j := j) (a := nI 1) (b := nI ([5, 4, 6].getD j 0)) (w := (4096 : Int64)) hF hS hR (by omega) h
      rw [rwL_fr hfr] at u1
      rw [if_neg dj, xkI_at hc.2.1.2 (by decide) hc.2.1.1 (by decide) (by show j < 3; omega), bs, c_o (G1710 hS), bs, a1, xb_mk]
      exact next τ1 r1 (frRw_trans hfr f1) (fun w hw => by unfold rsW; rw [if_neg dj]; exact u1 w hw)
/-- what the file holds before its sites are filled -/
def wrW (τ : px_TT) (fs : px_FS) (s : px_TK) (v : Int64) (sg : Nat) (SY : Nat → Nat → Int64) (tp fe3 : Nat) (ll sl : List Nat) (np : Nat) (g : Nat → Int32) : px_FW := psW τ SY tp sl np (ll.foldl (seW τ fs s) (wFil fe3 (nI 0).toInt8.toInt32.toInt8.toInt32 (tmW τ (itr (rsW τ) 0 3 (hdW v (nI sg) (if eI τ 1703 3 = 0 then nI 0 else nI 1) (0, g))))))
theorem k_write (hF : 65536 < F) (hc : KT c) (hr : STr fs s on R ST) (hN : SLN s.2.2.1.length (tB fs s.2.2.1)) (hfe : fe3 < 2 ^ 62) (hL : LAD sk L own τ0 fs s xs ST rn ll sl C B cpf tO th NA pp ad fe3 tp sp fp0 fp1 fp2 bg0 bg1 bg2) (hst : isNm τ0 1696 wST) (h : rF sk L τ0) : ∃ τ', f_Filler_write F c 1710 (cH sk L τ0) = some ((), cH sk L τ') ∧ rF sk L τ' ∧ fF τ0 τ' ∧ (fe3 ≤ 65536 → ∀ g, fC τ' (wrW τ0 fs s (vST NA xs) (sgN th 3) (syF fs s xs B tO ll on R pp ad NA) tp fe3 ll sl cpf.length g)) := by
  obtain ⟨τ1, a1, r1, f1, u1⟩ := k_writeHead (F := F) (c := c) hF hc hL.1.1 hst hL.2.2.2.2.1 hL.2.2.2.1.1 h
  obtain ⟨τ2, b1, b2, b3, b4⟩ := k_w_6 (F := F) (c := c) hF hc hr hN hfe hL 3 0 F τ1 rfl (by omega) r1 f1
  refine ⟨τ2, ?_, b2, b3, fun q g => by unfold wrW; exact b4 q _ (u1 g)⟩
  unfold f_Filler_write
  rw [c_o (G1710 hL.1.1.1), bs, a1, xb_mk]
  exact b1
end CWS
