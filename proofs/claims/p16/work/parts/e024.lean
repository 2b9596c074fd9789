section
/-! address: class and reference answer alike (steps spelled out by sf/pp.py) -/
section BAD
variable {F : Nat} {c : px_CT} {sk : Nat → Nat × Nat × Nat} {L : Nat} {own : Nat → Nat × Nat} {τ : px_TT} {σ : px_S} {fs : List (Nat × (Nat → Nat))} {gs : List (List Nat × Int64)} {ws : List (List Nat)} {n : Nat} {b : Nat → Nat} {a : Int32} {Y : px_Y} {k N : Nat}
/-- the address of a name -/
def adY (ns : List (List Nat × Int64)) (w : List Nat) : Int64 := match idx w 0 (ns.map Prod.fst) with
  | none => -1
  | some i => (ns.getD i ([], 0)).2
theorem adY_q (h : ∀ (i : Nat) (x : List Nat × Int64), Y.2.2.2.1[i]? = some x → gB σ 29 i = x.2) (w : List Nat) : adQ σ (idx w 0 (Y.2.2.2.1.map Prod.fst)) = adY Y.2.2.2.1 w := by
  unfold adY
  cases e : idx w 0 (Y.2.2.2.1.map Prod.fst) with
  | none => rfl
  | some i =>
    have hi := (idx_lt e).2
    rw [List.length_map] at hi
    have hx : Y.2.2.2.1[i]? = some Y.2.2.2.1[i] := List.getElem?_eq_getElem (by omega)
    show gB σ 29 i = (Y.2.2.2.1.getD i ([], 0)).2
    rw [h i _ hx, List.getD_eq_getElem?_getD, hx]
    rfl
theorem adY_n {ns : List (List Nat × Int64)} (hn : ∀ w, w ∈ ns.map Prod.fst → nT w) (ht : tnm b n = false) : adY ns (tk b 0 n) = -1 := by
  unfold adY
  cases e : idx (tk b 0 n) 0 (ns.map Prod.fst) with
  | none => rfl
  | some i =>
    have hm : tk b 0 n ∈ ns.map Prod.fst := idx_iff.mp (by rw [e]; rfl)
    rw [nT_tnm.mpr (hn _ hm)] at ht
    cases ht
theorem Bx_address (hF : 65540 < F) (hC : CV sk L own τ fs gs ws n b a Y) (hR : RV σ fs gs ws n b a Y) (hm : RMk sk L (k + 210)) (hN : n + (fs.map Prod.fst).sum ≤ N) : BT RnJ (fun ci σ => ci = 14 ∧ gI σ 0 = nI 1) sk L τ k N (f_H_address F c 0 (cH sk L τ)) (g_H_address F c 0 (cH sk L τ)) (fun h => f_M_address F 1726 (mh 1726 h σ)) := by
  have o0 := G0 hC.1
  have ea : fI τ 147 18 = a := hC.2.2.2.2.2.2.2.2.2.2
  have h13 : gI σ 13 = a := hR.2.2.2.2.2.2.2.2.1
  have u : ∀ (h : px_H) (nms : List (List Nat)), 1726 ≤ h.length → RNm σ nms → ∃ v σ', f_M_address F 1726 (mh 1726 h σ) = some (v, mh 1726 h σ') ∧ gI σ' 0 = nI (if a = 0 then 0 else 1) ∧ RV σ' fs gs ws (if a = 0 then 0 else n) (if a = 0 then fun _ => 0 else b) a Y ∧ (a = 0 → v = adQ σ (idx (tk b 0 n) 0 nms)) := fun h nms hl hn => by
    obtain ⟨v1, v2, v3, v4, v5, v6, v7, v8⟩ := id hR
    obtain ⟨v, σ', e, g0, g1, f, g2⟩ := q_address (F := F) hl (by omega) v1 hn
    rw [h13] at g0 g1 g2
    exact ⟨v, σ', e, g0, ⟨g1, RF_FR v2 f (by decide) (by decide), RG_FR v3 f (by decide) (by decide) (by decide), RW_FR v4 f (by decide) (by decide), OUo_FR v5 f (by decide) (by decide), MV_FR v6 f (by decide) (by decide), MNa_FR v7 f (by decide) (by decide), RVc_FR v8 f (by decide) (by decide) (by decide)⟩, g2⟩
  by_cases c0 : a = 0
  · obtain ⟨_, r1, r2, _⟩ := (RV_X hR).2 c0
    obtain ⟨_, ⟨hns, hnt⟩, hna, _⟩ := (CV_X hC).2 c0
    obtain ⟨τ1, e1, h1, h2, h3⟩ := v_readTapeName (F := F) (c := c) hF hC
    obtain ⟨_, ⟨hns1, _⟩, hna1, _⟩ := (CV_X h1).2 c0
    have hlen : (Y.2.2.2.1.map Prod.fst).length ≤ 4128 := hns1.2.2.2.1
    have eC : f_H_address F c 0 (cH sk L τ) = some (adY Y.2.2.2.1 (tk b 0 n), cH sk L τ1) := by
      unfold f_H_address f_H_address_45 f_H_address_60
      rw [C0r11 o0 (GR_r (v := 147) hC.2.1 (by decide)), bs, C3g18 (G147 hC.1), bs, ea, if_pos c0, c_o o0, bs, e1, xb_mk]
      cases ht : tnm b n with
      | false =>
        rw [if_pos (show bI false = 0 from rfl), adY_n hnt ht]
      | true =>
        have hw := h2 ht
        have hok := tk_ok hC.2.2.2.2.2.2.1 ht
        rw [if_neg (show ¬ bI true = 0 by decide), C0r11 o0 (GR_r (v := 147) h1.2.1 (by decide)), bs, C3r3 (G147 hC.1) (GR_r (v := 148) h1.2.1 (by decide)), bs, C0r10 o0 (R0_10 h1.2.1), bs, c_o hns1.1, bs, k_find hns1 (G146 hC.1) hw hok (by omega), xb_mk]
        unfold adY
        cases e : idx (tk b 0 n) 0 (Y.2.2.2.1.map Prod.fst) with
        | none => rfl
        | some i =>
          have hi := (idx_lt e).2
          rw [List.length_map] at hi
          have hx : Y.2.2.2.1[i]? = some Y.2.2.2.1[i] := List.getElem?_eq_getElem (by omega)
          have hxw : (Y.2.2.2.1.map Prod.fst)[i]? = some Y.2.2.2.1[i].1 := by rw [List.getElem?_map, hx]; rfl
          obtain ⟨_, _, op, _⟩ := hns1.2.2.2.2.2.2 i _ hxw
          show ((xgJ (cH sk L τ1) 5 14 (pN τ1 149 i)).bind _) = _
          have eg : Y.2.2.2.1.getD i ([], 0) = Y.2.2.2.1[i] := by rw [List.getD_eq_getElem?_getD, hx]; rfl
          rw [C5g14 op, bs, hna1 i _ hx]
          show some (Y.2.2.2.1[i].2, cH sk L τ1) = some ((Y.2.2.2.1.getD i ([], 0)).2, cH sk L τ1)
          rw [eg]
    refine ⟨fs, gs, ws, 0, fun _ => 0, a, Y, by omega, Or.inl ⟨_, sk, L, τ1, own, eC, EX_refl, h3, RMk_le hm (by omega), h1, fun h hl => ?_⟩⟩
    obtain ⟨v, σ', e, g0, g1, g2⟩ := u h _ hl r1
    rw [if_pos c0] at g0
    rw [if_pos c0, if_pos c0] at g1
    exact ⟨v, σ', e, g1, by rw [g2 c0, adY_q r2], g0⟩
  · obtain ⟨nms, hn, _⟩ := (RV_X hR).1.2
    refine ⟨fs, gs, ws, n, b, a, Y, hN, Or.inr ⟨14, τ, own, ?_, K26_refl τ, RMk_le hm (by omega), hC, fun h hl => ?_⟩⟩
    · unfold g_H_address
      rw [C0r11 o0 (GR_r (v := 147) hC.2.1 (by decide)), bs, C3g18 (G147 hC.1), bs, if_neg (by rw [ea]; exact c0)]
    · obtain ⟨v, σ', e, g0, g1, g2⟩ := u h _ hl hn
      rw [if_neg c0] at g0
      rw [if_neg c0, if_neg c0] at g1
      exact ⟨v, σ', e, g1, rfl, g0⟩
end BAD
end
