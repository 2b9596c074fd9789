/-! the threads' template, laid out by the class -/
/-- a frame: longs may change at J, elements of rows of longs at E -/
def frJE (J E : Nat → Nat → Prop) (τ τ' : px_TT) : Prop := (∀ a k, fI τ' a k = fI τ a k) ∧ (∀ a k, ¬ J a k → fJ τ' a k = fJ τ a k) ∧ (∀ a k, fN τ' a k = fN τ a k) ∧ (∀ a, eI τ' a = eI τ a) ∧ (∀ a i, ¬ E a i → eJ τ' a i = eJ τ a i) ∧ ∀ a, eN τ' a = eN τ a
section CFQ
variable {J E J' E' : Nat → Nat → Prop} {τ τ1 τ2 : px_TT}
theorem frJE_refl : frJE J E τ τ := ⟨fun _ _ => rfl, fun _ _ _ => rfl, fun _ _ => rfl, fun _ => rfl, fun _ _ _ => rfl, fun _ => rfl⟩
theorem frJE_trans (h : frJE J E τ τ1) (g : frJE J E τ1 τ2) : frJE J E τ τ2 := ⟨fun a k => (g.1 a k).trans (h.1 a k), fun a k x => (g.2.1 a k x).trans (h.2.1 a k x), fun a k => (g.2.2.1 a k).trans (h.2.2.1 a k), fun a => (g.2.2.2.1 a).trans (h.2.2.2.1 a), fun a i x => (g.2.2.2.2.1 a i x).trans (h.2.2.2.2.1 a i x), fun a => (g.2.2.2.2.2 a).trans (h.2.2.2.2.2 a)⟩
theorem frJE_mono (h : frJE J E τ τ1) (hJ : ∀ a k, J a k → J' a k) (hE : ∀ a k, E a k → E' a k) : frJE J' E' τ τ1 := ⟨h.1, fun a k x => h.2.1 a k (fun w => x (hJ a k w)), h.2.2.1, h.2.2.2.1, fun a i x => h.2.2.2.2.1 a i (fun w => x (hE a i w)), h.2.2.2.2.2⟩
theorem frJE_J {a k : Nat} {v : Int64} (h : J a k) : frJE J E τ (tJ τ a k v) := ⟨fun _ _ => rfl, fun x y w => tJ_ne (by
    by_cases e : x = a
    · exact Or.inr (fun e2 => w (by rw [e, e2]; exact h))
    · exact Or.inl e), fun _ _ => rfl, fun _ => rfl, fun _ _ _ => rfl, fun _ => rfl⟩
theorem eJ_up {a i : Nat} {v : Int64} : eJ (vJ τ a (vp_updL (eJ τ a) i v)) a i = v := by rw [eJ_v_eq]; exact vp_eq
theorem eJ_un {a i x y : Nat} {v : Int64} (h : x ≠ a ∨ y ≠ i) : eJ (vJ τ a (vp_updL (eJ τ a) i v)) x y = eJ τ x y := by
  by_cases e : x = a
  · rw [e, eJ_v_eq, vp_ne (h.resolve_left (fun q => q e))]
  · rw [eJ_v_ne e]
theorem frJE_E {a i : Nat} {v : Int64} (h : E a i) : frJE J E τ (vJ τ a (vp_updL (eJ τ a) i v)) := ⟨fun _ _ => rfl, fun _ _ _ => rfl, fun _ _ => rfl, fun _ => rfl, fun x y w => eJ_un (by
    by_cases e : x = a
    · exact Or.inr (fun e2 => w (by rw [e, e2]; exact h))
    · exact Or.inl e), fun _ => rfl⟩
theorem frJE_Ly (h : frJE J E τ τ1) (hJ : ∀ a k, J a k → a = 1697 ∨ a = 1700 ∨ (152 ≤ a ∧ a < 1688 ∧ k = 11) ∨ (1815 ≤ a ∧ k = 14)) (hE : ∀ a i, E a i → 1704 ≤ a ∧ a ≤ 1707) : frLy τ τ1 := ⟨fun a k _ _ _ => h.1 a k, fun a k _ _ _ => h.1 a k, fun a k h1 h2 h3 h4 => h.2.1 a k (fun w => by have := hJ a k w; omega), fun a k h1 h2 => h.2.1 a k (fun w => by have := hJ a k w; omega), h.2.2.1, fun a _ => h.2.2.2.1 a, fun a h1 => funext (fun i => h.2.2.2.2.1 a i (fun w => by have := hE a i w; omega)), fun a _ => h.2.2.2.2.2 a⟩
def J11 (a k : Nat) : Prop := 152 ≤ a ∧ a < 1688 ∧ k = 11
def J14 (a k : Nat) : Prop := (a = 1700 ∧ k = 15) ∨ (1815 ≤ a ∧ k = 14)
def E0 (_ _ : Nat) : Prop := False
theorem fr11_Q (h : fr11 τ τ1) : frJE J11 E0 τ τ1 := ⟨h.1, fun a k w => h.2.1 a k (by unfold J11 at w; omega), h.2.2.1, h.2.2.2.1, fun a i _ => by rw [h.2.2.2.2.1], h.2.2.2.2.2⟩
theorem fr14_Q (h : fr14 τ τ1) : frJE J14 E0 τ τ1 := ⟨h.1, fun a k w => by
    unfold J14 at w
    by_cases e : a < 1815
    · exact h.2.1 a k e (by omega)
    · exact h.2.2.1 a k (by omega) (by omega), h.2.2.2.1, h.2.2.2.2.1, fun a i _ => by rw [h.2.2.2.2.2.1], h.2.2.2.2.2.2⟩
def J16 (a k : Nat) : Prop := a = 1700 ∧ (k = 16 ∨ k = 17)
def E3 (a i : Nat) : Prop := 1704 ≤ a ∧ a ≤ 1707 ∧ i = 3
end CFQ
section CTP
variable {F : Nat} {c : px_CT} {sk : Nat → Nat × Nat × Nat} {L : Nat} {own : Nat → Nat × Nat} {fs : px_FS} {s : px_TK} {xs : px_NL} {ST rn : Nat → Bool} {ll : List Nat}
theorem isP_1 {v : Nat} (h : isP v = true) : 1 ≤ v ∧ v ≤ 4096 := ⟨(of_decide_eq_true h).1, (of_decide_eq_true h).2.1⟩
theorem k_lt_60 {ad : Nat → Nat} {a1 a3 : Int64} {a5 : Option Nat} {a6 : Int32} (hk : STk fs s ST) (hl : llS2 s ST ll) : ∀ (d P f : Nat) (τ : px_TT) (u : px_FT), P + d = ll.length → d < f → TKe sk L own τ fs s xs ST rn → COr τ ll → fJ τ 1700 16 = lN u.2.2.1 → isP u.2.2.1 = true → ∃ τ', f_Layout_layTemplate_60 F c f 1700 a1 a3 a5 a6 (nI P) (cH sk L τ) = f_Layout_layTemplate_116 F c 1700 a1 a3 a5 a6 (cH sk L τ') ∧ fJ τ' 1700 16 = lN ((ll.drop P).foldl (ft1 (tB fs s.2.2.1) ad) u).2.2.1 ∧ isP ((ll.drop P).foldl (ft1 (tB fs s.2.2.1) ad) u).2.2.1 = true ∧ frJE J16 E0 τ τ' := by
  have hl1 := hl.1
  intro d
  induction d with
  | zero =>
    intro P f τ u hP hf h ho h16 hu
    obtain ⟨f, rfl⟩ : ∃ x, f = x + 1 := ⟨f - 1, by omega⟩
    rw [List.drop_of_length_le (by omega)]
    refine ⟨τ, ?_, h16, hu, frJE_refl⟩
    unfold f_Layout_layTemplate_60
    rw [C2g11 (G1700 h.1), bs, ho.1, if_pos (nI_le (by omega) (by omega))]
  | succ d ih =>
    intro P f τ u hP hf h ho h16 hu
    obtain ⟨f, rfl⟩ : ∃ x, f = x + 1 := ⟨f - 1, by omega⟩
    have hS := h.1
    have hR := h.2.1
    have o := G1700 hS
    have hPl : P < ll.length := by omega
    have hx := List.getElem?_eq_getElem hPl
    have hdr : ll.drop P = ll[P] :: ll.drop (P + 1) := List.drop_eq_getElem_cons hPl
    generalize ll[P] = x at hx hdr
    obtain ⟨hxT, hxS⟩ := hl.2 x (List.mem_of_getElem? hx)
    obtain ⟨p1, p2, p3, p4⟩ := TKe_part h hxT
    obtain ⟨t4, t5, t6, t7, t10, tS⟩ := TKe_pt h hk hxT hxS
    obtain ⟨q, _, _, _, _, he, _⟩ := TKe_ob h (show x / 24 < s.2.2.1.length by omega)
    have hK := ((Bool.and_eq_true _ _).mp (hk x hxT hxS).1).2
    have ha := (eObj_a he tS hK).2
    have hap := eObj_p he tS hK
    obtain ⟨u1, u2⟩ := isP_1 hu
    rw [hdr, List.foldl_cons]
    have hg := oG_5 (b := tB fs s.2.2.1 (x / 24)) (i := x % 24)
    have hput : ∀ u' : px_FT, isP u'.2.2.1 = true → ∃ τ', f_Layout_layTemplate_107 F c (f_Layout_layTemplate_60 F c f) 1700 a1 a3 a5 a6 (nI P) 1700 (lN u'.2.2.1) (cH sk L τ) = f_Layout_layTemplate_116 F c 1700 a1 a3 a5 a6 (cH sk L τ') ∧ fJ τ' 1700 16 = lN ((ll.drop (P + 1)).foldl (ft1 (tB fs s.2.2.1) ad) u').2.2.1 ∧ isP ((ll.drop (P + 1)).foldl (ft1 (tB fs s.2.2.1) ad) u').2.2.1 = true ∧ frJE J16 E0 τ τ' := fun u' hu' => by
      have f1 : frJE J16 E0 τ (tJ τ 1700 16 (lN u'.2.2.1)) := frJE_J ⟨rfl, Or.inl rfl⟩
      obtain ⟨τ', j1, j2, j3, j4⟩ := ih (P + 1) f (tJ τ 1700 16 (lN u'.2.2.1)) u' (by omega) (by omega) (TKe_Ly h (frJE_Ly f1 (fun a k w => by unfold J16 at w; omega) (fun a k w => w.elim))) (COr_fx ho rfl rfl) tJ_at hu'
      refine ⟨τ', ?_, j2, j3, frJE_trans f1 j4⟩
      unfold f_Layout_layTemplate_107
      rw [C2p16 o, bs, nI_add]
      exact j1
    unfold f_Layout_layTemplate_60
    rw [C2g11 o, bs, ho.1, if_neg (nI_ge hPl (by omega)), c_o o, bs, k_partAt hS hR ho hl1 hx, xb_mk, bs, C8g4 p1, bs, t4]
    by_cases c4 : 4 ≤ oG (tB fs s.2.2.1 (x / 24)) (x % 24)
    · have e1 : (if lN (if oA (tB fs s.2.2.1 (x / 24)) (x % 24) < 1 then 1 else oA (tB fs s.2.2.1 (x / 24)) (x % 24)) < lN u.2.2.1 then lN u.2.2.1 else lN (if oA (tB fs s.2.2.1 (x / 24)) (x % 24) < 1 then 1 else oA (tB fs s.2.2.1 (x / 24)) (x % 24))) = lN (ft1 (tB fs s.2.2.1) ad u x).2.2.1 ∧ isP (ft1 (tB fs s.2.2.1) ad u x).2.2.1 = true := by
        unfold ft1
        rw [if_pos c4]
        show _ = lN (if oA (tB fs s.2.2.1 (x / 24)) (x % 24) ≤ u.2.2.1 then u.2.2.1 else oA (tB fs s.2.2.1 (x / 24)) (x % 24)) ∧ isP (if oA (tB fs s.2.2.1 (x / 24)) (x % 24) ≤ u.2.2.1 then u.2.2.1 else oA (tB fs s.2.2.1 (x / 24)) (x % 24)) = true
        generalize oA (tB fs s.2.2.1 (x / 24)) (x % 24) = A at *
        generalize u.2.2.1 = U at *
        have hA' : (if A < 1 then 1 else A) < 2 ^ 31 := by split <;> omega
        constructor
        · by_cases w : (if A < 1 then 1 else A) < U
          · rw [if_pos ((lt31 hA' (by omega)).mpr w), if_pos (by split at w <;> omega)]
          · rw [if_neg (fun z => w ((lt31 hA' (by omega)).mp z))]
            congr 1
            split at w
            · rw [if_pos (by omega), if_pos (by omega)]; omega
            · rw [if_neg (by omega)]
              split <;> omega
        · by_cases w : A ≤ U
          · rw [if_pos w]; exact hu
          · rw [if_neg w]; exact hap.resolve_left (by omega)
      rw [if_neg (fun w => by have := (nI_ltI (by omega) (by decide)).mp w; omega), C2g16 o, bs, h16, C8g6 p1, bs, t6, nI_l (by split <;> omega), e1.1]
      exact hput _ e1.2
    · rw [if_pos ((nI_ltI (by omega) (by decide)).mpr (by omega)), C2g16 o, bs, h16, ft1_n c4]
      exact hput u hu
theorem k_lt_173 {τ : px_TT} {p e5 U : Nat} {v : Int64} (hS : GS sk L) (hR : GR τ) (hp : ob sk L 8 p) (h16 : fJ τ 1700 16 = lN U) (hU : isP U = true) (he5 : e5 < 2 ^ 61) : ∃ τ', f_Layout_layTemplate_173 F c 1700 (lN e5) (some p) 1706 (nI 3) v (cH sk L τ) = some ((), cH sk L τ') ∧ fJ τ' 1700 17 = lN (upN e5 U) ∧ frJE J16 E3 τ τ' := by
  have o := G1700 hS
  obtain ⟨u1, u2⟩ := isP_1 hU
  obtain ⟨w1, w2⟩ := isP_pow U (by omega) hU
  obtain ⟨τ1, hτ1⟩ : ∃ y, y = vJ τ 1706 (vp_updL (eJ τ 1706) 3 v) := ⟨_, rfl⟩
  obtain ⟨τ2, hτ2⟩ : ∃ y, y = vJ τ1 1707 (vp_updL (eJ τ1 1707) 3 (lN e5 - fJ τ1 p 11)) := ⟨_, rfl⟩
  have f1 : frJE J16 E3 τ τ1 := by rw [hτ1]; exact frJE_E ⟨by decide, by decide, rfl⟩
  have f2 : frJE J16 E3 τ1 τ2 := by rw [hτ2]; exact frJE_E ⟨by decide, by decide, rfl⟩
  have e16 : fJ τ2 1700 16 = lN U := by rw [hτ2, hτ1]; exact h16
  refine ⟨tJ τ2 1700 17 (lN (upN e5 U)), ?_, tJ_at, frJE_trans (frJE_trans f1 f2) (frJE_J ⟨rfl, Or.inr rfl⟩)⟩
  unfold f_Layout_layTemplate_173
  rw [c_sJ (G1706 hS) (by decide) (by decide), bs, ← hτ1, C2r8 o (q := 1707) (by rw [f1.2.2.1]; exact GR_r (v := 1707) hR (by decide)), bs, bs, C8g11 hp, bs, c_sJ (G1707 hS) (by decide) (by decide), bs, ← hτ2, C2g16 o, bs, e16]
  generalize Nat.log2 U = k at w1 w2
  rw [w1, k_up w2 he5, xb_mk, C2p17 o, bs]
theorem k_lt_116 {τ : px_TT} {p e5 U : Nat} {a1 : Int64} {a6 : Int32} (hS : GS sk L) (hR : GR τ) (hp : ob sk L 8 p) (h16 : fJ τ 1700 16 = lN U) (hU : isP U = true) (he5 : e5 < 2 ^ 61) : ∃ τ', f_Layout_layTemplate_116 F c 1700 a1 (lN e5) (some p) a6 (cH sk L τ) = some ((), cH sk L τ') ∧ fJ τ' 1700 17 = lN (upN e5 U) ∧ frJE J16 E3 τ τ' := by
  have o := G1700 hS
  obtain ⟨τ1, hτ1⟩ : ∃ y, y = vJ τ 1705 (vp_updL (eJ τ 1705) 3 (fJ τ p 11)) := ⟨_, rfl⟩
  obtain ⟨τ2, hτ2⟩ : ∃ y, y = vJ τ1 1704 (vp_updL (eJ τ1 1704) 3 (eJ τ1 1704 2 + fJ τ1 p 11 - eJ τ1 1705 2)) := ⟨_, rfl⟩
  have f1 : frJE J16 E3 τ τ1 := by rw [hτ1]; exact frJE_E ⟨by decide, by decide, rfl⟩
  have f2 : frJE J16 E3 τ1 τ2 := by rw [hτ2]; exact frJE_E ⟨by decide, by decide, rfl⟩
  have e16 : fJ τ2 1700 16 = lN U := by rw [hτ2, hτ1]; exact h16
  have hLy := frJE_Ly (frJE_trans f1 f2) (fun a k w => Or.inr (Or.inl w.1)) (fun a k w => ⟨w.1, w.2.1⟩)
  have hR2 := GR_Ly hR hLy
  have hR1 := GR_Ly hR (frJE_Ly f1 (fun a k w => Or.inr (Or.inl w.1)) (fun a k w => ⟨w.1, w.2.1⟩))
  have go : ∀ v, ∃ τ', f_Layout_layTemplate_173 F c 1700 (lN e5) (some p) 1706 (nI 3) v (cH sk L τ2) = some ((), cH sk L τ') ∧ fJ τ' 1700 17 = lN (upN e5 U) ∧ frJE J16 E3 τ τ' := fun v => by
    obtain ⟨τ', j1, j2, j3⟩ := k_lt_173 (F := F) (c := c) (v := v) hS hR2 hp e16 hU he5
    exact ⟨τ', j1, j2, frJE_trans (frJE_trans f1 f2) j3⟩
  unfold f_Layout_layTemplate_116
  rw [C2r6 o (GR_r (v := 1705) hR (by decide)), bs, bs, C8g11 hp, bs, c_sJ (G1705 hS) (by decide) (by decide), bs, ← hτ1, C2r5 o (GR_r (v := 1704) hR1 (by decide)), bs, bs, c_aJ (G1704 hS) (by decide) (by decide), bs, C8g11 hp, bs, C2r6 o (GR_r (v := 1705) hR1 (by decide)), bs, c_aJ (G1705 hS) (by decide) (by decide), bs, c_sJ (G1704 hS) (by decide) (by decide), bs, ← hτ2, C2r7 o (GR_r (v := 1706) hR2 (by decide)), bs]
  by_cases c6 : a6 = 0
  · rw [if_pos c6]; exact go _
  · rw [if_neg c6, C8g11 hp, bs]; exact go _
/-- the template -/
theorem k_layTemplate {τ : px_TT} {ad : Nat → Nat} {fe bg2 e5 : Nat} (hF : 65536 < F) (hk : STk fs s ST) (hl : llS2 s ST ll) (h : TKe sk L own τ fs s xs ST rn) (ho : COr τ ll) (hb : eJ τ 1705 2 = lN bg2) (he5 : e5 < 2 ^ 61) (hFT : (ll.foldl (ft1 (tB fs s.2.2.1) ad) (false, 0, 1, 0)).1 = true → (ll.foldl (ft1 (tB fs s.2.2.1) ad) (false, 0, 1, 0)).2.1 = e5) : ∃ τ', f_Layout_layTemplate F c 1700 (lN fe) (lN e5) (cH sk L τ) = some ((), cH sk L τ') ∧ fJ τ' 1700 17 = lN (tpN bg2 (ll.foldl (ft1 (tB fs s.2.2.1) ad) (false, 0, 1, 0))) ∧ frJE J16 E3 τ τ' := by
  have hl1 := hl.1
  have hS := h.1
  have hR := h.2.1
  have o := G1700 hS
  have kf4 := k_firstOf (F := F) (c := c) (p := fun x => decide (oG (tB fs s.2.2.1 (x / 24)) (x % 24) = 4)) (g := 4) (fun x _ => decide_eq_true_iff) hF hk hl (by decide) h ho
  have kf5 := k_firstOf (F := F) (c := c) (p := fun x => decide (oG (tB fs s.2.2.1 (x / 24)) (x % 24) = 5)) (g := 5) (fun x _ => decide_eq_true_iff) hF hk hl (by decide) h ho
  obtain ⟨τ1, hτ1⟩ : ∃ y, y = tJ τ 1700 16 (lN 1) := ⟨_, rfl⟩
  obtain ⟨τ2, hτ2⟩ : ∃ y, y = tJ τ1 1700 17 (lN bg2) := ⟨_, rfl⟩
  have f2 : frJE J16 E0 τ τ2 := by
    rw [hτ2, hτ1]
    exact frJE_trans (frJE_J ⟨rfl, Or.inl rfl⟩) (frJE_J ⟨rfl, Or.inr rfl⟩)
  have h2 := TKe_Ly h (frJE_Ly f2 (fun a k w => Or.inr (Or.inl w.1)) (fun a k w => w.elim))
  have ho2 : COr τ2 ll := COr_fx ho (f2.1 1700 11) (f2.2.2.2.2.2 1701)
  have ft := ft_1 (tb := tB fs s.2.2.1) (ad := ad) ll (false, 0, 1, 0)
  generalize hFTd : ll.foldl (ft1 (tB fs s.2.2.1) ad) (false, 0, 1, 0) = FT at *
  rw [Bool.false_or] at ft
  have pre : ∀ (a6 : Int32) (s0 : Option Nat), f_Layout_layTemplate_34 F c 1700 (lN fe) (lN e5) a6 s0 (cH sk L τ) = (match s0 with
    | none => some ((), cH sk L τ2)
    | some p5 => f_Layout_layTemplate_60 F c F 1700 (lN fe) (lN e5) (some p5) a6 (nI 0) (cH sk L τ2)) := fun a6 s0 => by
    unfold f_Layout_layTemplate_34
    rw [C2p16 o, bs, ← hτ1, C2r6 o (q := 1705) (by rw [hτ1]; exact GR_r (v := 1705) hR (by decide)), bs, c_aJ (G1705 hS) (by decide) (by decide), bs, show eJ τ1 1705 2 = lN bg2 by rw [hτ1]; exact hb, C2p17 o, bs, ← hτ2]
    cases s0 <;> rfl
  have some' : ∀ (a6 : Int32) (x : Nat), x ∈ ll → 4 ≤ oG (tB fs s.2.2.1 (x / 24)) (x % 24) → ∃ τ', f_Layout_layTemplate_34 F c 1700 (lN fe) (lN e5) a6 (some (152 + x)) (cH sk L τ) = some ((), cH sk L τ') ∧ fJ τ' 1700 17 = lN (tpN bg2 FT) ∧ frJE J16 E3 τ τ' := fun a6 x hxm hg4 => by
    have hft : FT.1 = true := by rw [ft]; exact List.any_eq_true.mpr ⟨x, hxm, decide_eq_true hg4⟩
    obtain ⟨hxT, hxS⟩ := hl.2 x hxm
    obtain ⟨p1, _⟩ := TKe_part h hxT
    obtain ⟨τ3, j1, j2, j3, j4⟩ := k_lt_60 (F := F) (c := c) (ad := ad) (a1 := lN fe) (a3 := lN e5) (a5 := some (152 + x)) (a6 := a6) hk hl ll.length 0 F τ2 (false, 0, 1, 0) (Nat.zero_add _) (by omega) h2 ho2 (by rw [hτ2, tJ_ne (Or.inr (by decide)), hτ1, tJ_at]) (by decide)
    rw [List.drop_zero, hFTd] at j2 j3
    have f3 : frJE J16 E3 τ τ3 := frJE_mono (frJE_trans f2 j4) (fun _ _ w => w) (fun _ _ w => w.elim)
    obtain ⟨τ4, l1, l2, l3⟩ := k_lt_116 (F := F) (c := c) (a1 := lN fe) (a6 := a6) hS (GR_Ly hR (frJE_Ly f3 (fun a k w => Or.inr (Or.inl w.1)) (fun a k w => ⟨w.1, w.2.1⟩))) p1 j2 j3 he5
    refine ⟨τ4, ?_, ?_, frJE_trans f3 l3⟩
    · rw [pre]
      exact j1.trans l1
    · rw [l2]
      unfold tpN
      rw [if_pos hft, hFT hft]
  have find5 : ∀ (P : Nat → Bool) (x : Nat), ll.find? P = some x → x ∈ ll ∧ P x = true := fun P x w => ⟨List.mem_of_find?_eq_some w, List.find?_some w⟩
  unfold f_Layout_layTemplate
  rw [c_o o, bs, kf4, xb_mk]
  cases e4 : ll.find? (fun x => decide (oG (tB fs s.2.2.1 (x / 24)) (x % 24) = 4)) with
  | some x =>
    obtain ⟨w1, w2⟩ := find5 _ _ e4
    have w2 := of_decide_eq_true w2
    show ∃ τ', f_Layout_layTemplate_17 F c 1700 (lN fe) (lN e5) (some (152 + x)) (nI 1) (cH sk L τ) = _ ∧ _
    unfold f_Layout_layTemplate_17
    rw [if_neg (show ¬ nI 1 = 0 by decide)]
    exact some' _ x w1 (by omega)
  | none =>
    show ∃ τ', f_Layout_layTemplate_17 F c 1700 (lN fe) (lN e5) none (nI 0) (cH sk L τ) = _ ∧ _
    unfold f_Layout_layTemplate_17
    rw [if_pos (show nI 0 = 0 from rfl), c_o o, bs, kf5, xb_mk]
    cases e5' : ll.find? (fun x => decide (oG (tB fs s.2.2.1 (x / 24)) (x % 24) = 5)) with
    | some x =>
      obtain ⟨w1, w2⟩ := find5 _ _ e5'
      have w2 := of_decide_eq_true w2
      exact some' _ x w1 (by omega)
    | none =>
      have w4 := List.find?_eq_none.mp e4
      have w5 := List.find?_eq_none.mp e5'
      have hf : FT.1 = false := by
        rw [ft]
        refine List.any_eq_false.mpr (fun x hx => ?_)
        have z4 := w4 x hx
        have z5 := w5 x hx
        rw [decide_eq_true_iff] at z4 z5 ⊢
        have := oG_5 (b := tB fs s.2.2.1 (x / 24)) (i := x % 24)
        omega
      refine ⟨τ2, pre _ none, ?_, frJE_mono f2 (fun _ _ w => w) (fun _ _ w => w.elim)⟩
      unfold tpN
      rw [if_neg (by rw [hf]; decide), hτ2, tJ_at]
end CTP
