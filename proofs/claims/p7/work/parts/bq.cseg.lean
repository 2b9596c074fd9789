/-! findSegments of the class -/
def frSg (τ τ' : px_TT) : Prop := (∀ a k, fI τ' a k = fI τ a k) ∧ (∀ a k, fJ τ' a k = fJ τ a k) ∧ (∀ a k, fN τ' a k = fN τ a k) ∧ (∀ a, a ≠ 1703 → eI τ' a = eI τ a) ∧ (∀ a, eJ τ' a = eJ τ a) ∧ ∀ a, eN τ' a = eN τ a
theorem frSg_refl {τ : px_TT} : frSg τ τ := ⟨fun _ _ => rfl, fun _ _ => rfl, fun _ _ => rfl, fun _ _ => rfl, fun _ => rfl, fun _ => rfl⟩
theorem frSg_trans {τ τ1 τ2 : px_TT} (h : frSg τ τ1) (g : frSg τ1 τ2) : frSg τ τ2 := ⟨fun a k => (g.1 a k).trans (h.1 a k), fun a k => (g.2.1 a k).trans (h.2.1 a k), fun a k => (g.2.2.1 a k).trans (h.2.2.1 a k), fun a x => (g.2.2.2.1 a x).trans (h.2.2.2.1 a x), fun a => (g.2.2.2.2.1 a).trans (h.2.2.2.2.1 a), fun a => (g.2.2.2.2.2 a).trans (h.2.2.2.2.2 a)⟩
theorem frSg_Ly {τ τ' : px_TT} (f : frSg τ τ') : frLy τ τ' := ⟨fun a k _ _ _ => f.1 a k, fun a k _ _ _ => f.1 a k, fun a k _ _ _ _ => f.2.1 a k, fun a k _ _ => f.2.1 a k, f.2.2.1, fun a h => f.2.2.2.1 a (by omega), fun a _ => f.2.2.2.2.1 a, fun a _ => f.2.2.2.2.2 a⟩
theorem frSg_v {τ : px_TT} {g : Nat → Int32} : frSg τ (vI τ 1703 g) := ⟨fun _ _ => rfl, fun _ _ => rfl, fun _ _ => rfl, fun a h => eI_v_ne h, fun _ => rfl, fun _ => rfl⟩
/-- only the long row a has changed -/
def frFj (a : Nat) (τ τ' : px_TT) : Prop := (∀ x k, fI τ' x k = fI τ x k) ∧ (∀ x k, fJ τ' x k = fJ τ x k) ∧ (∀ x k, fN τ' x k = fN τ x k) ∧ (∀ x, eI τ' x = eI τ x) ∧ (∀ x, x ≠ a → eJ τ' x = eJ τ x) ∧ ∀ x, eN τ' x = eN τ x
theorem frFj_refl {a : Nat} {τ : px_TT} : frFj a τ τ := ⟨fun _ _ => rfl, fun _ _ => rfl, fun _ _ => rfl, fun _ => rfl, fun _ _ => rfl, fun _ => rfl⟩
theorem frFj_trans {a : Nat} {τ τ1 τ2 : px_TT} (h : frFj a τ τ1) (g : frFj a τ1 τ2) : frFj a τ τ2 := ⟨fun a k => (g.1 a k).trans (h.1 a k), fun a k => (g.2.1 a k).trans (h.2.1 a k), fun a k => (g.2.2.1 a k).trans (h.2.2.1 a k), fun a => (g.2.2.2.1 a).trans (h.2.2.2.1 a), fun a x => (g.2.2.2.2.1 a x).trans (h.2.2.2.2.1 a x), fun a => (g.2.2.2.2.2 a).trans (h.2.2.2.2.2 a)⟩
theorem frFj_v {a : Nat} {τ : px_TT} {g : Nat → Int64} : frFj a τ (vJ τ a g) := ⟨fun _ _ => rfl, fun _ _ => rfl, fun _ _ => rfl, fun _ => rfl, fun b hb => eJ_v_ne hb, fun _ => rfl⟩
theorem frFj_Ly {a : Nat} {τ τ' : px_TT} (f : frFj a τ τ') (h : 1704 ≤ a ∧ a ≤ 1707) : frLy τ τ' := ⟨fun a k _ _ _ => f.1 a k, fun a k _ _ _ => f.1 a k, fun a k _ _ _ _ => f.2.1 a k, fun a k _ _ => f.2.1 a k, f.2.2.1, fun a _ => f.2.2.2.1 a, fun b hb => f.2.2.2.2.1 b (by omega), fun a _ => f.2.2.2.2.2 a⟩
section CSG
variable {F : Nat} {c : px_CT} {sk : Nat → Nat × Nat × Nat} {L : Nat} {τ : px_TT} {own : Nat → Nat × Nat} {fs : px_FS} {s : px_TK} {xs : px_NL} {ST rn : Nat → Bool} {ll : List Nat}
/-- the parts that are laid out stay -/
def llS2 (s : px_TK) (ST : Nat → Bool) (ll : List Nat) : Prop := ll.length ≤ 1536 ∧ ∀ x, x ∈ ll → x < 24 * s.2.2.1.length ∧ ST x = true
theorem k_partAt {P x : Nat} (hS : GS sk L) (hR : GR τ) (ho : COr τ ll) (hl : ll.length ≤ 1536) (hx : ll[P]? = some x) : f_Layout_partAt F c 1700 (nI P) (cH sk L τ) = some (some (152 + x), cH sk L τ) := by
  have o := G1700 hS
  have hP := (List.getElem?_eq_some_iff.mp hx).1
  unfold f_Layout_partAt f_Layout_partAt_31 f_Layout_partAt_44
  rw [if_neg (show ¬ nI P < 0 from nI_nlt (b := 0) (Nat.zero_le _) (by omega)), C2g11 o, bs, ho.1, if_neg (nI_ge hP (by omega)), C2r2 o (GR_r (v := 1701) hR (by decide)), bs, c_l (G1701 hS) (by decide), bs, if_neg (nI_ge (by omega) (by omega)), bs, c_aN (G1701 hS) (by decide) (by decide) (by omega), bs, ho.2 P x hx]
theorem sgO_l : ∀ g, g < 6 → [0, 1, 2, 2, 2, 2].getD g 0 = sgO g ∧ sgO g < 3 := by decide
theorem k_segmentOf {p g : Nat} (hc : KT c) (hp : ob sk L 8 p) (hg : g < 6) (h4 : fI τ p 4 = nI g) : f_Layout_segmentOf F c 1700 (some p) (cH sk L τ) = some (nI (sgO g), cH sk L τ) := by
  unfold f_Layout_segmentOf f_Layout_segmentOf_30
  rw [bs, C8g4 hp, bs, h4, if_neg (show ¬ nI g < 0 from nI_nlt (b := 0) (Nat.zero_le _) (by omega)), bs, xkl_at hc.2.2.2.2.1.2 (by decide), bs, show [0, 1, 2, 2, 2, 2].length = 6 from rfl, if_neg (nI_ge hg (by decide)), bs, xkI_at hc.2.2.2.2.1.2 (by decide) hc.2.2.2.2.1.1 (by decide) (show g < [0, 1, 2, 2, 2, 2].length from hg), bs, (sgO_l g hg).1]
theorem k_fillJ {a : Nat} (ha : ar sk L 2 4 a) : ∀ (d k f : Nat) (τ : px_TT), k + d = 4 → d < f → (∀ i, i < k → eJ τ a i = lN 0) → ∃ τ', f_Arrays_fill_2_6 F c f a (lN 0) (nI k) (nI 4) (cH sk L τ) = some ((), cH sk L τ') ∧ (∀ i, i < 4 → eJ τ' a i = lN 0) ∧ frFj a τ τ' := by
  intro d
  induction d with
  | zero =>
    intro k f τ hk hf hz
    obtain ⟨f, rfl⟩ : ∃ x, f = x + 1 := ⟨f - 1, by omega⟩
    refine ⟨τ, ?_, fun i h => hz i (by omega), frFj_refl⟩
    unfold f_Arrays_fill_2_6 f_Arrays_fill_2_22
    rw [if_pos (nI_le (by omega) (by omega))]
  | succ d ih =>
    intro k f τ hk hf hz
    obtain ⟨f, rfl⟩ : ∃ x, f = x + 1 := ⟨f - 1, by omega⟩
    obtain ⟨τ', j1, j2, j3⟩ := ih (k + 1) f (vJ τ a (vp_updL (eJ τ a) k (lN 0))) (by omega) (by omega) (fun i h => by
      rw [eJ_v_eq]
      by_cases e : i = k
      · rw [e]; exact vp_eq
      · rw [vp_ne e]; exact hz i (by omega))
    refine ⟨τ', ?_, j2, frFj_trans frFj_v j3⟩
    unfold f_Arrays_fill_2_6
    rw [if_neg (nI_ge (by omega) (by omega)), c_sJ ha (by decide) (by omega), bs, nI_add]
    exact j1
/-- which segments are there, so far -/
def thV (τ : px_TT) (v : Nat → Bool) : Prop := ∀ i, i < 4 → eI τ 1703 i = bI (v i)
theorem thV_up {v : Nat → Bool} {i : Nat} {w : Bool} (h : thV τ v) : thV (vI τ 1703 (upd (eI τ 1703) i (bI w))) (fun k => if k = i then w else v k) := fun k hk => by
  rw [eI_v_eq]
  show _ = bI (if k = i then w else v k)
  by_cases e : k = i
  · rw [e, upd_eq, if_pos rfl]
  · rw [upd_ne e, if_neg e]; exact h k hk
theorem k_sg_26 (hS : GS sk L) : ∀ (d k f : Nat) (τ : px_TT), k + d = 4 → d < f → GR τ → (∀ i, i < k → eI τ 1703 i = bI false) → ∃ τ', f_Layout_findSegments_26 F c f 1700 (nI k) (cH sk L τ) = f_Layout_findSegments_44 F c 1700 (cH sk L τ') ∧ thV τ' (fun _ => false) ∧ frSg τ τ' := by
  intro d
  induction d with
  | zero =>
    intro k f τ hk hf hR hz
    obtain ⟨f, rfl⟩ : ∃ x, f = x + 1 := ⟨f - 1, by omega⟩
    refine ⟨τ, ?_, fun i h => hz i (by omega), frSg_refl⟩
    unfold f_Layout_findSegments_26
    rw [if_pos (nI_lt (by omega) (by omega))]
  | succ d ih =>
    intro k f τ hk hf hR hz
    obtain ⟨f, rfl⟩ : ∃ x, f = x + 1 := ⟨f - 1, by omega⟩
    have f1 : frSg τ (vI τ 1703 (upd (eI τ 1703) k (bI false))) := frSg_v
    obtain ⟨τ', j1, j2, j3⟩ := ih (k + 1) f _ (by omega) (by omega) (GR_Ly hR (frSg_Ly f1)) (fun i h => by
      rw [eI_v_eq]
      by_cases e : i = k
      · rw [e, upd_eq]
      · rw [upd_ne e]; exact hz i (by omega))
    refine ⟨τ', ?_, j2, frSg_trans f1 j3⟩
    unfold f_Layout_findSegments_26
    rw [if_neg (nI_nlt (by omega) (by omega)), C2r4 (G1700 hS) (GR_r (v := 1703) hR (by decide)), bs, show nI 0 &&& 1 = bI false from rfl, c_sI (G1703 hS) (by decide) (by decide) (by omega), bs, nI_add]
    exact j1
theorem k_fillA {a : Nat} (ha : ar sk L 2 4 a) (hF : 8 < F) : ∃ τ', f_Arrays_fill_2 F c a (lN 0) (cH sk L τ) = some ((), cH sk L τ') ∧ (∀ i, i < 4 → eJ τ' a i = lN 0) ∧ frFj a τ τ' := by
  obtain ⟨τ', j1, j2⟩ := k_fillJ (F := F) (c := c) ha 4 0 F τ rfl (by omega) (fun i h => by omega)
  refine ⟨τ', ?_, j2⟩
  unfold f_Arrays_fill_2
  rw [c_l ha (by decide), bs]
  exact j1
/-- one part -/
def sgX (tb : Nat → Nat → Nat) (x : Nat) (v : Nat → Bool) : Nat → Bool := fun i => v i || (if i = 3 then thr1 tb x else thx tb i x)
theorem thV_eq {v w : Nat → Bool} (h : thV τ v) (e : ∀ i, i < 4 → w i = v i) : thV τ w := fun i hi => by rw [e i hi]; exact h i hi
theorem k_sg_46 (hF : 65536 < F) (hc : KT c) (hk : STk fs s ST) (hl : llS2 s ST ll) : ∀ (d P f : Nat) (τ : px_TT) (v : Nat → Bool), P + d = ll.length → d < f → TKe sk L own τ fs s xs ST rn → COr τ ll → thV τ v → ∃ τ', f_Layout_findSegments_46 F c f 1700 (nI P) (cH sk L τ) = f_Layout_findSegments_112 F c 1700 (cH sk L τ') ∧ thV τ' (fun i => v i || (ll.drop P).any (fun x => if i = 3 then thr1 (tB fs s.2.2.1) x else thx (tB fs s.2.2.1) i x)) ∧ frSg τ τ' := by
  intro d
  induction d with
  | zero =>
    intro P f τ v hP hf h ho hv
    obtain ⟨f, rfl⟩ : ∃ x, f = x + 1 := ⟨f - 1, by omega⟩
    have h1 := hl.1
    refine ⟨τ, ?_, ?_, frSg_refl⟩
    · unfold f_Layout_findSegments_46
      rw [C2g11 (G1700 h.1), bs, ho.1, if_pos (nI_le (by omega) (by omega))]
    · rw [List.drop_of_length_le (by omega)]
      exact thV_eq hv (fun i _ => by rw [List.any_nil, Bool.or_false])
  | succ d ih =>
    intro P f τ v hP hf h ho hv
    obtain ⟨f, rfl⟩ : ∃ x, f = x + 1 := ⟨f - 1, by omega⟩
    have h1 := hl.1
    have hS := h.1
    have hR := h.2.1
    have o := G1700 hS
    have hPl : P < ll.length := by omega
    have hx := List.getElem?_eq_getElem hPl
    have hdr : ll.drop P = ll[P] :: ll.drop (P + 1) := List.drop_eq_getElem_cons hPl
    generalize ll[P] = x at hx hdr
    obtain ⟨hxT, hxS⟩ := hl.2 x (List.mem_of_getElem? hx)
    obtain ⟨p1, p2, p3, p4⟩ := TKe_part h hxT
    obtain ⟨t4, t5, t6, t7, t10, tS⟩ := TKe_pt h hk hxT hxS
    obtain ⟨g, hg⟩ : ∃ g, g = oG (tB fs s.2.2.1 (x / 24)) (x % 24) := ⟨_, rfl⟩
    have hg6 : g < 6 := by rw [hg]; unfold oG; repeat (first | omega | split)
    obtain ⟨z, hz⟩ : ∃ z, z = zS (tB fs s.2.2.1) x := ⟨_, rfl⟩
    have hz31 : z < 2 ^ 31 := by
      obtain ⟨q, _, _, _, _, he, _⟩ := TKe_ob h (show x / 24 < s.2.2.1.length by omega)
      have hb := (eObj_0 he).1.1.2.2.2.2 _ tS ((Bool.and_eq_true _ _).mp (hk x hxT hxS).1).2
      rw [hz]
      unfold zS
      omega
    have ethx : ∀ i, thx (tB fs s.2.2.1) i x = (decide (sgO g = i) && decide (0 < z)) := fun i => by rw [hg, hz]; rfl
    have ethr : thr1 (tB fs s.2.2.1) x = (decide (3 < g) && decide (0 < z)) := by rw [hg, hz]; rfl
    rw [← hg] at t4
    rw [← hz] at t5
    have go : ∀ (τ1 : px_TT) (v1 : Nat → Bool), (∀ i, i < 4 → v1 i = sgX (tB fs s.2.2.1) x v i) → thV τ1 v1 → frSg τ τ1 → ∃ τ', f_Layout_findSegments_106 F c (f_Layout_findSegments_46 F c f) 1700 (nI P) (cH sk L τ1) = f_Layout_findSegments_112 F c 1700 (cH sk L τ') ∧ thV τ' (fun i => v i || (ll.drop P).any (fun x => if i = 3 then thr1 (tB fs s.2.2.1) x else thx (tB fs s.2.2.1) i x)) ∧ frSg τ τ' := fun τ1 v1 e1 e2 e3 => by
      obtain ⟨τ', j1, j2, j3⟩ := ih (P + 1) f τ1 v1 (by omega) (by omega) (TKe_Ly h (frSg_Ly e3)) (COr_fx ho (e3.1 1700 11) (e3.2.2.2.2.2 1701)) e2
      refine ⟨τ', ?_, ?_, frSg_trans e3 j3⟩
      · unfold f_Layout_findSegments_106
        rw [nI_add]
        exact j1
      · refine thV_eq j2 (fun i hi => ?_)
        show (v i || (ll.drop P).any _) = (v1 i || (ll.drop (P + 1)).any _)
        rw [hdr, List.any_cons, e1 i hi]
        show (v i || (_ || _)) = ((v i || _) || _)
        rw [Bool.or_assoc]
    unfold f_Layout_findSegments_46
    rw [C2g11 o, bs, ho.1, if_neg (nI_ge hPl (by omega)), c_o o, bs, k_partAt hS hR ho h1 hx, xb_mk, bs, C8g5 p1, bs, t5]
    by_cases cz : z ≤ 0
    · rw [if_pos (show nI z ≤ 0 from nI_le (b := 0) cz (by decide))]
      refine go τ v (fun i _ => ?_) hv frSg_refl
      unfold sgX
      rw [ethx, ethr, decide_eq_false (show ¬ 0 < z by omega), Bool.and_false, Bool.and_false, ite_self, Bool.or_false]
    · have hz0 : decide (0 < z) = true := decide_eq_true (by omega)
      have hs3 := (sgO_l g hg6).2
      rw [if_neg (show ¬ nI z ≤ 0 from nI_ge (a := 0) (by omega) hz31), C2r4 o (GR_r (v := 1703) hR (by decide)), bs, c_o o, bs, k_segmentOf hc p1 hg6 t4, xb_mk, show nI 1 &&& 1 = bI true from rfl, c_sI (G1703 hS) (by decide) (by decide) (by omega), bs]
      obtain ⟨τ1, hτ1⟩ : ∃ y, y = vI τ 1703 (upd (eI τ 1703) (sgO g) (bI true)) := ⟨_, rfl⟩
      have f1 : frSg τ τ1 := by rw [hτ1]; exact frSg_v
      have v1 : thV τ1 (fun k => if k = sgO g then true else v k) := by rw [hτ1]; exact thV_up hv
      have hR1 := GR_Ly hR (frSg_Ly f1)
      have e3 : eI τ1 1703 3 = bI (v 3) := by rw [v1 3 (by decide)]; show bI (if 3 = sgO g then true else v 3) = _; rw [if_neg (by omega)]
      rw [← hτ1, C2r4 o (GR_r (v := 1703) hR1 (by decide)), bs, bs, c_aI (G1703 hS) (by decide) (by decide) (by decide), bs, e3]
      have wr : ∀ w : Bool, w = (v 3 || decide (3 < g)) → ∃ τ', f_Layout_findSegments_105 F c (f_Layout_findSegments_46 F c f) 1700 (nI P) 1703 (nI 3) (bI w) (cH sk L τ1) = f_Layout_findSegments_112 F c 1700 (cH sk L τ') ∧ thV τ' (fun i => v i || (ll.drop P).any (fun x => if i = 3 then thr1 (tB fs s.2.2.1) x else thx (tB fs s.2.2.1) i x)) ∧ frSg τ τ' := fun w hw => by
        have eb : bI w &&& 1 = bI w := by cases w <;> rfl
        unfold f_Layout_findSegments_105
        rw [eb, c_sI (G1703 hS) (by decide) (by decide) (by decide), bs]
        refine go _ _ (fun i hi => ?_) (thV_up (i := 3) (w := w) v1) (frSg_trans f1 frSg_v)
        show (if i = 3 then w else if i = sgO g then true else v i) = (v i || (if i = 3 then thr1 (tB fs s.2.2.1) x else thx (tB fs s.2.2.1) i x))
        rw [ethx, ethr, hz0, Bool.and_true, Bool.and_true]
        by_cases c3 : i = 3
        · rw [if_pos c3, if_pos c3, hw, c3]
        · rw [if_neg c3, if_neg c3]
          by_cases cg : i = sgO g
          · rw [if_pos cg, decide_eq_true cg.symm, Bool.or_true]
          · rw [if_neg cg, decide_eq_false (fun q => cg q.symm), Bool.or_false]
      cases e : v 3 with
      | false =>
        rw [if_pos (show bI false = 0 from rfl), C8g4 p1, bs, f1.1, t4]
        by_cases c4 : g < 4
        · rw [if_pos (nI_lt c4 (by decide))]
          exact wr false (by rw [e, decide_eq_false (by omega)]; rfl)
        · rw [if_neg (nI_nlt (by omega) (by omega))]
          exact wr true (by rw [e, decide_eq_true (by omega)]; rfl)
      | true =>
        rw [if_neg (show ¬ bI true = 0 by decide)]
        exact wr true (by rw [e]; rfl)
end CSG
