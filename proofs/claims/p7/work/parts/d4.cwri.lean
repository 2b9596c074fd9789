/-! the file that a link writes: safe -/
section CWR
variable {F : Nat} {c : px_CT} {sk : Nat → Nat × Nat × Nat} {L : Nat} {τ : px_TT}
abbrev rF (sk : Nat → Nat × Nat × Nat) (L : Nat) (τ : px_TT) : Prop := rowOK sk L τ 1711 1712 65536
abbrev fF (τ τ' : px_TT) : Prop := frRw 1711 1712 τ τ'
abbrev fC (τ : px_TT) (w : px_FW) : Prop := fW 1711 1712 65536 τ w
/-- numbers put one behind the other -/
def pT (l : List (Nat × Int64)) (w : px_FW) : px_FW := l.foldl (fun w x => wPut 65536 x.1 x.2 w) w
theorem pT_c {k : Nat} {v : Int64} {l : List (Nat × Int64)} {w : px_FW} : pT ((k, v) :: l) w = pT l (wPut 65536 k v w) := rfl
theorem pT_n {w : px_FW} : pT [] w = w := rfl
def hdL (v : Int64) (sg b : Int32) : List (Nat × Int64) := [(8, v), (8, (64 : Int64)), (8, lN 0), (4, lN 0), (2, (64 : Int64)), (2, (56 : Int64)), (2, (sg + b).toInt64), (6, lN 0)]
/-- the head of the file -/
def hdW (v : Int64) (sg b : Int32) (w : px_FW) : px_FW := pT (hdL v sg b) (pT [(2, (2 : Int64)), (2, (62 : Int64)), (4, lN 1)] (wFil 16 (nI 0).toInt8.toInt32.toInt8.toInt32 (itr (fun i => wPut 65536 1 ((nI ([127, 69, 76, 70, 2, 1, 1].getD i 0)).toInt64)) 0 7 w)))
def rwL (τ : px_TT) (a b : Int32) (j : Nat) (w : Int64) : List (Nat × Int64) := [(4, a.toInt64), (4, b.toInt64), (8, eJ τ 1704 j), (8, eJ τ 1705 j), (8, eJ τ 1705 j), (8, eJ τ 1706 j), (8, eJ τ 1707 j), (8, w)]
/-- where a run begins -/
def vST (NA : Nat → Int64) (xs : px_NL) : Int64 := match idx wST 0 (xs.map Prod.fst) with
  | none => lN 0
  | some i => NA i
theorem GR_Fw {τ' : px_TT} (h : GR τ) (f : fF τ τ') : GR τ' := GR_Rw h f (Or.inr (by decide))
theorem frZ_F {τ' : px_TT} (f : fF τ τ') : frZ τ τ' := frZ_Rw f (by unfold Zc; omega) (by unfold Zc; omega)
theorem k_wh_180 {a b : Int32} (hF : 65536 < F) (hS : GS sk L) (hR : GR τ) (h : rF sk L τ) : ∃ τ', f_Filler_writeHead_180 F c 1710 1711 (nI 2) a b (cH sk L τ) = some ((), cH sk L τ') ∧ rF sk L τ' ∧ fF τ τ' ∧ ∀ w, fC τ w → fC τ' (pT [(2, (a + b).toInt64), (6, lN 0)] w) := by
  obtain ⟨τ1, a1, r1, f1, u1⟩ := k_putC (F := F) (c := c) (v := (a + b).toInt64) (k := 2) (by omega) (by decide) h
  have F1 : fF τ τ1 := f1
  obtain ⟨τ2, a2, r2, f2, u2⟩ := k_putC (F := F) (c := c) (v := lN 0) (k := 6) (by omega) (by decide) r1
  have F2 : fF τ τ2 := frRw_trans F1 f2
  refine ⟨τ2, ?_, r2, F2, fun w hw => by rw [pT_c, pT_c, pT_n]; exact u2 _ (u1 w hw)⟩
  unfold f_Filler_writeHead_180
  rw [c_o h.1, bs, a1, xb_mk, C1r4 (G1710 hS) (GR_r (v := 1711) (GR_Fw hR F1) (by decide)), bs, c_o h.1, bs, a2, xb_mk]
theorem k_wh_95 {v : Int64} {th : Nat → Bool} (hF : 65536 < F) (hS : GS sk L) (hR : GR τ) (hth : ∀ j, j < 3 → eI τ 1703 j = bI (th j)) (h : rF sk L τ) : ∃ τ', f_Filler_writeHead_95 F c 1710 1711 (nI 8) v (cH sk L τ) = some ((), cH sk L τ') ∧ rF sk L τ' ∧ fF τ τ' ∧ ∀ w, fC τ w → fC τ' (pT (hdL v (nI (sgN th 3)) (if eI τ 1703 3 = 0 then nI 0 else nI 1)) w) := by
  obtain ⟨τ1, a1, r1, f1, u1⟩ := k_putC (F := F) (c := c) (v := v) (k := 8) (by omega) (by decide) h
  have F1 : fF τ τ1 := f1
  obtain ⟨τ2, a2, r2, f2, u2⟩ := k_putC (F := F) (c := c) (v := (64 : Int64)) (k := 8) (by omega) (by decide) r1
  have F2 : fF τ τ2 := frRw_trans F1 f2
  obtain ⟨τ3, a3, r3, f3, u3⟩ := k_putC (F := F) (c := c) (v := lN 0) (k := 8) (by omega) (by decide) r2
  have F3 : fF τ τ3 := frRw_trans F2 f3
  obtain ⟨τ4, a4, r4, f4, u4⟩ := k_putC (F := F) (c := c) (v := lN 0) (k := 4) (by omega) (by decide) r3
  have F4 : fF τ τ4 := frRw_trans F3 f4
  obtain ⟨τ5, a5, r5, f5, u5⟩ := k_putC (F := F) (c := c) (v := (64 : Int64)) (k := 2) (by omega) (by decide) r4
  have F5 : fF τ τ5 := frRw_trans F4 f5
  obtain ⟨τ6, a6, r6, f6, u6⟩ := k_putC (F := F) (c := c) (v := (56 : Int64)) (k := 2) (by omega) (by decide) r5
  have F6 : fF τ τ6 := frRw_trans F5 f6
  have hth6 : ∀ j, j < 3 → eI τ6 1703 j = bI (th j) := fun j hj => by rw [F6.2.2.2.1 1703 (by decide)]; exact hth j hj
  have kc := k_countSegments (F := F) (c := c) (by omega) hS (GR_Fw hR F6) hth6
  have e3 : eI τ6 1703 3 = eI τ 1703 3 := by rw [F6.2.2.2.1 1703 (by decide)]
  have fin : ∀ b : Int32, ∃ τ', f_Filler_writeHead_180 F c 1710 1711 (nI 2) (nI (sgN th 3)) b (cH sk L τ6) = some ((), cH sk L τ') ∧ rF sk L τ' ∧ fF τ τ' ∧ ∀ w, fC τ w → fC τ' (pT (hdL v (nI (sgN th 3)) b) w) := fun b => by
    obtain ⟨τ7, b1, b2, b3, b4⟩ := k_wh_180 (F := F) (c := c) (a := nI (sgN th 3)) (b := b) hF hS (GR_Fw hR F6) r6
    exact ⟨τ7, b1, b2, frRw_trans F6 b3, fun w hw => by unfold hdL; rw [pT_c, pT_c, pT_c, pT_c, pT_c, pT_c]; exact b4 _ (u6 _ (u5 _ (u4 _ (u3 _ (u2 _ (u1 w hw))))))⟩
  unfold f_Filler_writeHead_95
  rw [c_o h.1, bs, a1, xb_mk, C1r4 (G1710 hS) (GR_r (v := 1711) (GR_Fw hR F1) (by decide)), bs, c_o h.1, bs, a2, xb_mk, C1r4 (G1710 hS) (GR_r (v := 1711) (GR_Fw hR F2) (by decide)), bs, c_o h.1, bs, a3, xb_mk, C1r4 (G1710 hS) (GR_r (v := 1711) (GR_Fw hR F3) (by decide)), bs, c_o h.1, bs, a4, xb_mk, C1r4 (G1710 hS) (GR_r (v := 1711) (GR_Fw hR F4) (by decide)), bs, c_o h.1, bs, a5, xb_mk, C1r4 (G1710 hS) (GR_r (v := 1711) (GR_Fw hR F5) (by decide)), bs, c_o h.1, bs, a6, xb_mk, C1r4 (G1710 hS) (GR_r (v := 1711) (GR_Fw hR F6) (by decide)), bs, C1r1 (G1710 hS) (GR_r (v := 1700) (GR_Fw hR F6) (by decide)), bs, c_o (G1700 hS), bs, kc, xb_mk, C1r1 (G1710 hS) (GR_r (v := 1700) (GR_Fw hR F6) (by decide)), bs, C2r4 (G1700 hS) (GR_r (v := 1703) (GR_Fw hR F6) (by decide)), bs, c_aI (G1703 hS) (by decide) (by decide) (by decide), bs, e3]
  by_cases c3 : eI τ 1703 3 = 0
  · have fc := fin (nI 0)
    rw [if_pos c3, if_pos c3]
    exact fc
  · have fc := fin (nI 1)
    rw [if_neg c3, if_neg c3]
    exact fc
theorem k_writeHead {th : Nat → Bool} {NA : Nat → Int64} {own : Nat → Nat × Nat} {fs : px_FS} {s : px_TK} {xs : px_NL} {ST rn : Nat → Bool} (hF : 65536 < F) (hc : KT c) (hk : TKe sk L own τ fs s xs ST rn) (hst : isNm τ 1696 wST) (hNA : ∀ i, i < xs.length → fJ τ (pN τ 149 i) 14 = NA i) (hth : ∀ j, j < 3 → eI τ 1703 j = bI (th j)) (h : rF sk L τ) : ∃ τ', f_Filler_writeHead F c 1710 (cH sk L τ) = some ((), cH sk L τ') ∧ rF sk L τ' ∧ fF τ τ' ∧ ∀ g, fC τ' (hdW (vST NA xs) (nI (sgN th 3)) (if eI τ 1703 3 = 0 then nI 0 else nI 1) (0, g)) := by
  have hS := hk.1
  have hR := hk.2.1
  have kf := k_find2 (F := F) (c := c) (t := 1696) (w := wST) hk (by omega) (G1696 hS) hst ⟨by decide, by decide⟩
  obtain ⟨τ1, a1, r1, f1, u1⟩ := k_clearC (F := F) (c := c) h
  have F1 : fF τ τ1 := f1
  obtain ⟨τ2, a2, r2, f2, u2⟩ := k_putAll_2C (F := F) (c := c) (j := 3) (m := 7) (l := [127, 69, 76, 70, 2, 1, 1]) (by decide) hc.2.2.1.1 hc.2.2.1.2 rfl (by decide) (by omega) 7 0 F τ1 rfl (by omega) r1
  have F2 : fF τ τ2 := frRw_trans F1 f2
  obtain ⟨τ3, a3, r3, f3, u3⟩ := k_fillToC (F := F) (c := c) (e := 16) (x := nI 0) hF (by decide) r2
  have F3 : fF τ τ3 := frRw_trans F2 f3
  obtain ⟨τ4, a4, r4, f4, u4⟩ := k_putC (F := F) (c := c) (v := (2 : Int64)) (k := 2) (by omega) (by decide) r3
  have F4 : fF τ τ4 := frRw_trans F3 f4
  obtain ⟨τ5, a5, r5, f5, u5⟩ := k_putC (F := F) (c := c) (v := (62 : Int64)) (k := 2) (by omega) (by decide) r4
  have F5 : fF τ τ5 := frRw_trans F4 f5
  obtain ⟨τ6, a6, r6, f6, u6⟩ := k_putC (F := F) (c := c) (v := lN 1) (k := 4) (by omega) (by decide) r5
  have F6 : fF τ τ6 := frRw_trans F5 f6
  have hth6 : ∀ j, j < 3 → eI τ6 1703 j = bI (th j) := fun j hj => by rw [F6.2.2.2.1 1703 (by decide)]; exact hth j hj
  have e3 : eI τ6 1703 3 = eI τ 1703 3 := by rw [F6.2.2.2.1 1703 (by decide)]
  have fin : ∀ v : Int64, ∃ τ', f_Filler_writeHead_95 F c 1710 1711 (nI 8) v (cH sk L τ6) = some ((), cH sk L τ') ∧ rF sk L τ' ∧ fF τ τ' ∧ ∀ g, fC τ' (hdW v (nI (sgN th 3)) (if eI τ 1703 3 = 0 then nI 0 else nI 1) (0, g)) := fun v => by
    obtain ⟨τ7, b1, b2, b3, b4⟩ := k_wh_95 (F := F) (c := c) (v := v) hF hS (GR_Fw hR F6) hth6 r6
    rw [e3] at b4
    exact ⟨τ7, b1, b2, frRw_trans F6 b3, fun g => by unfold hdW; rw [pT_c, pT_c, pT_c, pT_n]; exact b4 _ (u6 _ (u5 _ (u4 _ (u3 (by decide) _ (u2 _ (u1 g))))))⟩
  have e2 : f_Row_putAll F c 1711 3 (cH sk L τ1) = some ((), cH sk L τ2) := a2
  unfold f_Filler_writeHead
  rw [C1r0 (G1710 hS) (GR_r (v := 147) hR (by decide)), bs, C3r3 (G147 hS) (GR_r (v := 148) hR (by decide)), bs, bs, C3r12 (G147 hS) (GR_r (v := 1696) hR (by decide)), bs, c_o (G148 hS), bs, kf, xb_mk, C1r4 (G1710 hS) (GR_r (v := 1711) hR (by decide)), bs, c_o h.1, bs, a1, xb_mk, C1r4 (G1710 hS) (GR_r (v := 1711) (GR_Fw hR F1) (by decide)), bs, c_o h.1, bs, e2, xb_mk, C1r4 (G1710 hS) (GR_r (v := 1711) (GR_Fw hR F2) (by decide)), bs, c_o h.1, bs, show (16 : Int64) = lN 16 from rfl, a3, xb_mk, C1r4 (G1710 hS) (GR_r (v := 1711) (GR_Fw hR F3) (by decide)), bs, c_o h.1, bs, a4, xb_mk, C1r4 (G1710 hS) (GR_r (v := 1711) (GR_Fw hR F4) (by decide)), bs, c_o h.1, bs, a5, xb_mk, C1r4 (G1710 hS) (GR_r (v := 1711) (GR_Fw hR F5) (by decide)), bs, c_o h.1, bs, a6, xb_mk, C1r4 (G1710 hS) (GR_r (v := 1711) (GR_Fw hR F6) (by decide)), bs]
  cases ei : idx wST 0 (xs.map Prod.fst) with
  | none =>
    have eV : vST NA xs = lN 0 := by unfold vST; rw [ei]
    rw [eV]
    exact fin _
  | some i =>
    have eV : vST NA xs = NA i := by unfold vST; rw [ei]
    have hi : i < xs.length := by
      have := (idx_lt ei).2
      rw [List.length_map] at this
      omega
    have hp := (CLm_at hk.2.2.2.1.2.1 (List.getElem?_eq_getElem hi)).2.2.1
    show ∃ τ', ((xgJ (cH sk L τ6) 5 14 (pN τ 149 i)).bind fun t21 => f_Filler_writeHead_95 F c 1710 1711 (nI 8) t21 (cH sk L τ6)) = some ((), cH sk L τ') ∧ rF sk L τ' ∧ fF τ τ' ∧ ∀ g, fC τ' (hdW (vST NA xs) (nI (sgN th 3)) (if eI τ 1703 3 = 0 then nI 0 else nI 1) (0, g))
    rw [C5g14 hp, bs, F6.2.1, hNA i hi, eV]
    exact fin _
theorem k_writeRow {j : Nat} {a b : Int32} {w : Int64} (hF : 65536 < F) (hS : GS sk L) (hR : GR τ) (hj : j < 4) (h : rF sk L τ) : ∃ τ', f_Filler_writeRow F c 1710 a b (nI j) w (cH sk L τ) = some ((), cH sk L τ') ∧ rF sk L τ' ∧ fF τ τ' ∧ ∀ x, fC τ x → fC τ' (pT (rwL τ a b j w) x) := by
  obtain ⟨τ1, a1, r1, f1, u1⟩ := k_putC (F := F) (c := c) (v := a.toInt64) (k := 4) (by omega) (by decide) h
  have F1 : fF τ τ1 := f1
  obtain ⟨τ2, a2, r2, f2, u2⟩ := k_putC (F := F) (c := c) (v := b.toInt64) (k := 4) (by omega) (by decide) r1
  have F2 : fF τ τ2 := frRw_trans F1 f2
  obtain ⟨τ3, a3, r3, f3, u3⟩ := k_putC (F := F) (c := c) (v := eJ τ2 1704 j) (k := 8) (by omega) (by decide) r2
  have F3 : fF τ τ3 := frRw_trans F2 f3
  obtain ⟨τ4, a4, r4, f4, u4⟩ := k_putC (F := F) (c := c) (v := eJ τ3 1705 j) (k := 8) (by omega) (by decide) r3
  have F4 : fF τ τ4 := frRw_trans F3 f4
  obtain ⟨τ5, a5, r5, f5, u5⟩ := k_putC (F := F) (c := c) (v := eJ τ4 1705 j) (k := 8) (by omega) (by decide) r4
  have F5 : fF τ τ5 := frRw_trans F4 f5
  obtain ⟨τ6, a6, r6, f6, u6⟩ := k_putC (F := F) (c := c) (v := eJ τ5 1706 j) (k := 8) (by omega) (by decide) r5
  have F6 : fF τ τ6 := frRw_trans F5 f6
  obtain ⟨τ7, a7, r7, f7, u7⟩ := k_putC (F := F) (c := c) (v := eJ τ6 1707 j) (k := 8) (by omega) (by decide) r6
  have F7 : fF τ τ7 := frRw_trans F6 f7
  obtain ⟨τ8, a8, r8, f8, u8⟩ := k_putC (F := F) (c := c) (v := w) (k := 8) (by omega) (by decide) r7
  have F8 : fF τ τ8 := frRw_trans F7 f8
  have g2 : eJ τ2 1704 j = eJ τ 1704 j := by rw [F2.2.2.2.2.1]
  have g3 : eJ τ3 1705 j = eJ τ 1705 j := by rw [F3.2.2.2.2.1]
  have g4 : eJ τ4 1705 j = eJ τ 1705 j := by rw [F4.2.2.2.2.1]
  have g5 : eJ τ5 1706 j = eJ τ 1706 j := by rw [F5.2.2.2.2.1]
  have g6 : eJ τ6 1707 j = eJ τ 1707 j := by rw [F6.2.2.2.2.1]
  rw [g2] at u3
  rw [g3] at u4
  rw [g4] at u5
  rw [g5] at u6
  rw [g6] at u7
  refine ⟨τ8, ?_, r8, F8, fun x hx => by unfold rwL; rw [pT_c, pT_c, pT_c, pT_c, pT_c, pT_c, pT_c, pT_c, pT_n]; exact u8 _ (u7 _ (u6 _ (u5 _ (u4 _ (u3 _ (u2 _ (u1 x hx)))))))⟩
  unfold f_Filler_writeRow
  rw [C1r4 (G1710 hS) (GR_r (v := 1711) hR (by decide)), bs, c_o h.1, bs, a1, xb_mk, C1r4 (G1710 hS) (GR_r (v := 1711) (GR_Fw hR F1) (by decide)), bs, c_o h.1, bs, a2, xb_mk, C1r4 (G1710 hS) (GR_r (v := 1711) (GR_Fw hR F2) (by decide)), bs, C1r1 (G1710 hS) (GR_r (v := 1700) (GR_Fw hR F2) (by decide)), bs, C2r5 (G1700 hS) (GR_r (v := 1704) (GR_Fw hR F2) (by decide)), bs, c_aJ (G1704 hS) (by decide) hj, bs, c_o h.1, bs, a3, xb_mk, C1r4 (G1710 hS) (GR_r (v := 1711) (GR_Fw hR F3) (by decide)), bs, C1r1 (G1710 hS) (GR_r (v := 1700) (GR_Fw hR F3) (by decide)), bs, C2r6 (G1700 hS) (GR_r (v := 1705) (GR_Fw hR F3) (by decide)), bs, c_aJ (G1705 hS) (by decide) hj, bs, c_o h.1, bs, a4, xb_mk, C1r4 (G1710 hS) (GR_r (v := 1711) (GR_Fw hR F4) (by decide)), bs, C1r1 (G1710 hS) (GR_r (v := 1700) (GR_Fw hR F4) (by decide)), bs, C2r6 (G1700 hS) (GR_r (v := 1705) (GR_Fw hR F4) (by decide)), bs, c_aJ (G1705 hS) (by decide) hj, bs, c_o h.1, bs, a5, xb_mk, C1r4 (G1710 hS) (GR_r (v := 1711) (GR_Fw hR F5) (by decide)), bs, C1r1 (G1710 hS) (GR_r (v := 1700) (GR_Fw hR F5) (by decide)), bs, C2r7 (G1700 hS) (GR_r (v := 1706) (GR_Fw hR F5) (by decide)), bs, c_aJ (G1706 hS) (by decide) hj, bs, c_o h.1, bs, a6, xb_mk, C1r4 (G1710 hS) (GR_r (v := 1711) (GR_Fw hR F6) (by decide)), bs, C1r1 (G1710 hS) (GR_r (v := 1700) (GR_Fw hR F6) (by decide)), bs, C2r8 (G1700 hS) (GR_r (v := 1707) (GR_Fw hR F6) (by decide)), bs, c_aJ (G1707 hS) (by decide) hj, bs, c_o h.1, bs, a7, xb_mk, C1r4 (G1710 hS) (GR_r (v := 1711) (GR_Fw hR F7) (by decide)), bs, c_o h.1, bs, a8, xb_mk]
end CWR
