/-! layGroup of the class -/
def fr11 (τ τ' : px_TT) : Prop := (∀ a k, fI τ' a k = fI τ a k) ∧ (∀ a k, (a < 152 ∨ 1688 ≤ a ∨ k ≠ 11) → fJ τ' a k = fJ τ a k) ∧ (∀ a k, fN τ' a k = fN τ a k) ∧ (∀ a, eI τ' a = eI τ a) ∧ (∀ a, eJ τ' a = eJ τ a) ∧ ∀ a, eN τ' a = eN τ a
theorem fr11_refl {τ : px_TT} : fr11 τ τ := ⟨fun _ _ => rfl, fun _ _ _ => rfl, fun _ _ => rfl, fun _ => rfl, fun _ => rfl, fun _ => rfl⟩
theorem fr11_trans {τ τ1 τ2 : px_TT} (h : fr11 τ τ1) (g : fr11 τ1 τ2) : fr11 τ τ2 := ⟨fun a k => (g.1 a k).trans (h.1 a k), fun a k x => (g.2.1 a k x).trans (h.2.1 a k x), fun a k => (g.2.2.1 a k).trans (h.2.2.1 a k), fun a => (g.2.2.2.1 a).trans (h.2.2.2.1 a), fun a => (g.2.2.2.2.1 a).trans (h.2.2.2.2.1 a), fun a => (g.2.2.2.2.2 a).trans (h.2.2.2.2.2 a)⟩
theorem fr11_Ly {τ τ' : px_TT} (f : fr11 τ τ') : frLy τ τ' := ⟨fun a k _ _ _ => f.1 a k, fun a k _ _ _ => f.1 a k, fun a k _ _ _ h => f.2.1 a k h, fun a k h _ => f.2.1 a k (by omega), f.2.2.1, fun a _ => f.2.2.2.1 a, fun a _ => f.2.2.2.2.1 a, fun a _ => f.2.2.2.2.2 a⟩
theorem isP_pow0 : ∀ i, i < 65 → ∀ j, j < 64 → isP (64 * i + j) = true → 64 * i + j = 2 ^ Nat.log2 (64 * i + j) ∧ Nat.log2 (64 * i + j) ≤ 32 := by decide +kernel
theorem isP_pow (v : Nat) (hv : v < 4097) (h : isP v = true) : v = 2 ^ Nat.log2 v ∧ Nat.log2 v ≤ 32 := by
  have := isP_pow0 (v / 64) (by omega) (v % 64) (by omega)
  rw [show 64 * (v / 64) + v % 64 = v by omega] at this
  exact this h
theorem eObj_p {b : Nat → Nat} {n i : Nat} (h : eObj b n = 0) (hi : i < oS b) (hk : oK b i = true) : oA b i = 0 ∨ isP (oA b i) = true := by
  unfold eObj at h
  by_cases c1 : n < 64 ∨ oH b = false
  · rw [if_pos c1] at h; cases h
  · rw [if_neg c1] at h
    by_cases c2 : 1 ≤ oS b ∧ oS b ≤ 24 ∧ oR b + 64 * oS b ≤ n ∧ oT b 0 = 0
    · rw [if_neg (fun q => q c2)] at h
      by_cases c3 : fst0 (eSec b n) 0 (oS b) = 0
      · exact (eSec_w (fst0_0 c3 i (Nat.zero_le _) (by omega))).2.2 hk
      · rw [if_pos c3] at h; exact absurd h c3
    · rw [if_pos c2] at h; cases h
section CGR
variable {F : Nat} {c : px_CT} {sk : Nat → Nat × Nat × Nat} {L : Nat} {own : Nat → Nat × Nat} {fs : px_FS} {s : px_TK} {xs : px_NL} {ST rn : Nat → Bool} {ll : List Nat} {g : Nat} {th : Bool} {D : Nat → Prop}
theorem cnd_c {tb : Nat → Nat → Nat} {x : Nat} : cnd tb g x = (decide (oG (tb (x / 24)) (x % 24) = g) && !sS tb x) := by
  unfold cnd
  by_cases e : oG (tb (x / 24)) (x % 24) = g
  · rw [decide_eq_true e, Bool.true_and, Bool.true_and]
    by_cases e1 : g = 1
    · rw [decide_eq_true e1, Bool.true_and]
    · rw [decide_eq_false e1, Bool.false_and]
      cases hs : sS tb x with
      | false => rfl
      | true =>
        unfold sS oStr oStr0 at hs
        rw [Bool.and_eq_true] at hs
        have := (of_decide_eq_true hs.1).2.1
        omega
  · rw [decide_eq_false e, Bool.false_and, Bool.false_and]
theorem k_lg_6 (hF : 65536 < F) (hc : KT c) (hk : STk fs s ST) (hl : llS2 s ST ll) (hnd : ll.Nodup) (hg : g < 6) (hD : ∀ x, D x → cnd (tB fs s.2.2.1) g x = false) : ∀ (d P f : Nat) (τ : px_TT) (G : px_PG), P + d = ll.length → d < f → TKe sk L own τ fs s xs ST rn → COr τ ll → eI τ 1703 (sgO g) = bI th → G.1 + d * 20480 < 2 ^ 40 → (∀ (Q x : Nat), ll[Q]? = some x → (D x ∨ (Q < P ∧ cnd (tB fs s.2.2.1) g x = true)) → fJ τ (152 + x) 11 = lN (G.2.1 x)) → ∃ τ', f_Layout_layGroup_6 F c f 1700 (nI g) (lN G.1) (nI P) (cH sk L τ) = some (lN ((ll.drop P).foldl (pg1 (tB fs s.2.2.1) g th) G).1, cH sk L τ') ∧ (∀ x, x ∈ ll → (D x ∨ cnd (tB fs s.2.2.1) g x = true) → fJ τ' (152 + x) 11 = lN (((ll.drop P).foldl (pg1 (tB fs s.2.2.1) g th) G).2.1 x)) ∧ fr11 τ τ' := by
  have hl1 := hl.1
  intro d
  induction d with
  | zero =>
    intro P f τ G hP hf h ho ht hb hA
    obtain ⟨f, rfl⟩ : ∃ x, f = x + 1 := ⟨f - 1, by omega⟩
    rw [List.drop_of_length_le (by omega)]
    refine ⟨τ, ?_, fun x hx hd => ?_, fr11_refl⟩
    · unfold f_Layout_layGroup_6 f_Layout_layGroup_95
      rw [C2g11 (G1700 h.1), bs, ho.1, if_pos (nI_le (by omega) (by omega))]
      rfl
    · obtain ⟨Q, hQ⟩ := List.getElem?_of_mem hx
      have := (List.getElem?_eq_some_iff.mp hQ).1
      exact hA Q x hQ (hd.elim Or.inl (fun q => Or.inr ⟨by omega, q⟩))
  | succ d ih =>
    intro P f τ G hP hf h ho ht hb hA
    obtain ⟨f, rfl⟩ : ∃ x, f = x + 1 := ⟨f - 1, by omega⟩
    have hS := h.1
    have hR := h.2.1
    have o := G1700 hS
    have hPl : P < ll.length := by omega
    have hx := List.getElem?_eq_getElem hPl
    have hdr : ll.drop P = ll[P] :: ll.drop (P + 1) := List.drop_eq_getElem_cons hPl
    have huq : ∀ Q, ll[Q]? = some ll[P] → Q = P := fun Q hQ => by
      have l1 := (List.getElem?_eq_some_iff.mp hQ).1
      have e1 := (List.getElem?_eq_some_iff.mp hQ).2
      exact (List.getElem_inj hnd (h₀ := l1) (h₁ := hPl)).mp e1
    generalize ll[P] = x at hx hdr huq
    obtain ⟨hxT, hxS⟩ := hl.2 x (List.mem_of_getElem? hx)
    obtain ⟨p1, p2, p3, p4⟩ := TKe_part h hxT
    obtain ⟨t4, t5, t6, t7, t10, tS⟩ := TKe_pt h hk hxT hxS
    obtain ⟨q, _, _, _, _, he, _⟩ := TKe_ob h (show x / 24 < s.2.2.1.length by omega)
    have hK := ((Bool.and_eq_true _ _).mp (hk x hxT hxS).1).2
    obtain ⟨hz, ha⟩ := eObj_a he tS hK
    have hap := eObj_p he tS hK
    have hT := BK_T (s := s) h.2.2.2.2.1.1
    rw [hdr, List.foldl_cons]
    obtain ⟨g1, hg1⟩ : ∃ g1, g1 = oG (tB fs s.2.2.1 (x / 24)) (x % 24) := ⟨_, rfl⟩
    have hg16 : g1 < 6 := by rw [hg1]; unfold oG; repeat (first | omega | split)
    have ecn := cnd_c (g := g) (tb := tB fs s.2.2.1) (x := x)
    rw [← hg1] at t4 ecn
    have hb1 := ar_pg3 hb
    unfold f_Layout_layGroup_6 f_Layout_layGroup_89
    rw [C2g11 o, bs, ho.1, if_neg (nI_ge hPl (by omega)), c_o o, bs, k_partAt hS hR ho hl1 hx, xb_mk, bs, C8g4 p1, bs, t4, nI_add]
    have no : cnd (tB fs s.2.2.1) g x = false → ∃ τ', f_Layout_layGroup_6 F c f 1700 (nI g) (lN G.1) (nI (P + 1)) (cH sk L τ) = some (lN ((ll.drop (P + 1)).foldl (pg1 (tB fs s.2.2.1) g th) (pg1 (tB fs s.2.2.1) g th G x)).1, cH sk L τ') ∧ (∀ x', x' ∈ ll → (D x' ∨ cnd (tB fs s.2.2.1) g x' = true) → fJ τ' (152 + x') 11 = lN (((ll.drop (P + 1)).foldl (pg1 (tB fs s.2.2.1) g th) (pg1 (tB fs s.2.2.1) g th G x)).2.1 x')) ∧ fr11 τ τ' := fun e => by
      have ep : pg1 (tB fs s.2.2.1) g th G x = G := by unfold pg1; rw [if_neg (by rw [e]; decide)]
      rw [ep]
      exact ih (P + 1) f τ G (by omega) (by omega) h ho ht (Nat.lt_of_le_of_lt (Nat.add_le_add_left (Nat.mul_le_mul_right _ (Nat.le_succ d)) _) hb) (fun Q y hy hd => hA Q y hy (hd.imp id (fun w => ⟨by
        by_cases eQ : Q = P
        · rw [eQ, hx] at hy
          have hy : x = y := Option.some.inj hy
          rw [← hy, e] at w
          exact nomatch w.2
        · omega, w.2⟩)))
    by_cases cg : g1 = g
    · rw [if_pos (by rw [cg]), C8g10 p1, bs, t10]
      cases hsS : sS (tB fs s.2.2.1) x with
      | true =>
        rw [if_neg (show ¬ bI true = 0 by decide)]
        exact no (by rw [ecn, hsS, Bool.not_true, Bool.and_false])
      | false =>
        have hcn : cnd (tB fs s.2.2.1) g x = true := by rw [ecn, hsS, decide_eq_true cg]; rfl
        have hDx : ¬ D x := fun w => by rw [hD x w] at hcn; cases hcn
        have ep : pg1 (tB fs s.2.2.1) g th G x = (pgA (tB fs s.2.2.1) th G.1 x + zS (tB fs s.2.2.1) x, fun y => if y = x then pgA (tB fs s.2.2.1) th G.1 x else G.2.1 y, if g = 3 then some (G.2.2.getD (pgA (tB fs s.2.2.1) th G.1 x)) else G.2.2) := by unfold pg1; rw [if_pos hcn]
        have hpa : pgA (tB fs s.2.2.1) th G.1 x ≤ G.1 + 4096 := by
          unfold pgA
          split
          · rename_i w
            have := (upN_le (v := G.1) (a := alS (tB fs s.2.2.1) x) (by omega)).2
            have ha' : alS (tB fs s.2.2.1) x ≤ 4096 := ha
            omega
          · omega
        obtain ⟨A, hA1⟩ : ∃ A, A = pgA (tB fs s.2.2.1) th G.1 x := ⟨_, rfl⟩
        have hz' : zS (tB fs s.2.2.1) x ≤ 16384 := hz
        have hb2 := ar_pg2 hb hpa hz'
        rw [← hA1] at ep hpa hb2
        have put : ∃ τ', f_Layout_layGroup_72 F c (f_Layout_layGroup_6 F c f) 1700 (nI g) (nI P) (some (152 + x)) (some (152 + x)) (lN A) (cH sk L τ) = some (lN ((ll.drop (P + 1)).foldl (pg1 (tB fs s.2.2.1) g th) (pg1 (tB fs s.2.2.1) g th G x)).1, cH sk L τ') ∧ (∀ x', x' ∈ ll → (D x' ∨ cnd (tB fs s.2.2.1) g x' = true) → fJ τ' (152 + x') 11 = lN (((ll.drop (P + 1)).foldl (pg1 (tB fs s.2.2.1) g th) (pg1 (tB fs s.2.2.1) g th G x)).2.1 x')) ∧ fr11 τ τ' := by
          obtain ⟨τ1, hτ1⟩ : ∃ y, y = tJ τ (152 + x) 11 (lN A) := ⟨_, rfl⟩
          have f1 : fr11 τ τ1 := by
            rw [hτ1]
            exact ⟨fun _ _ => rfl, fun a k w => tJ_ne (by omega), fun _ _ => rfl, fun _ => rfl, fun _ => rfl, fun _ => rfl⟩
          rw [ep]
          obtain ⟨τ', j1, j2, j3⟩ := ih (P + 1) f τ1 (A + zS (tB fs s.2.2.1) x, fun y => if y = x then A else G.2.1 y, if g = 3 then some (G.2.2.getD A) else G.2.2) (by omega) (by omega) (TKe_Ly h (fr11_Ly f1)) (COr_fx ho (f1.1 1700 11) (f1.2.2.2.2.2 1701)) (by rw [f1.2.2.2.1]; exact ht) hb2 (fun Q y hy hd => by
            show fJ τ1 (152 + y) 11 = lN (if y = x then A else G.2.1 y)
            by_cases ey : y = x
            · rw [if_pos ey, ey, hτ1, tJ_at]
            · rw [if_neg ey, hτ1, tJ_ne (Or.inl (by omega))]
              refine hA Q y hy (hd.imp id (fun w => ⟨?_, w.2⟩))
              by_cases eQ : Q = P
              · rw [eQ, hx] at hy
                exact absurd (Option.some.inj hy).symm ey
              · omega)
          refine ⟨τ', ?_, j2, fr11_trans f1 j3⟩
          unfold f_Layout_layGroup_72 f_Layout_layGroup_89
          rw [bs, C8p11 p1, bs, ← hτ1, bs, C8g11 p1, bs, show fJ τ1 (152 + x) 11 = lN A by rw [hτ1, tJ_at], C8g5 p1, bs, f1.1, t5, nI_l (by omega), lN_add, nI_add]
          exact j1
        rw [if_pos (show bI false = 0 from rfl), C2r4 o (GR_r (v := 1703) hR (by decide)), bs, c_o o, bs, k_segmentOf hc p1 hg16 t4, xb_mk, c_aI (G1703 hS) (by decide) (by decide) (by have := (sgO_l g1 hg16).2; omega), bs, cg, ht]
        cases eth : th with
        | false =>
          rw [if_pos (show bI false = 0 from rfl)]
          have eA : A = G.1 := by rw [hA1]; unfold pgA; rw [if_neg (fun w => by rw [eth] at w; exact nomatch w.1)]
          rw [← eA]
          rw [eth] at put
          exact put
        | true =>
          rw [if_neg (show ¬ bI true = 0 by decide), C8g6 p1, bs, t6, nI_l (by split <;> omega)]
          have eU : f_H_up F c (lN G.1) (lN (if oA (tB fs s.2.2.1 (x / 24)) (x % 24) < 1 then 1 else oA (tB fs s.2.2.1 (x / 24)) (x % 24))) (cH sk L τ) = some (lN A, cH sk L τ) := by
            rw [hA1]
            unfold pgA
            have eal : alS (tB fs s.2.2.1) x = oA (tB fs s.2.2.1 (x / 24)) (x % 24) := rfl
            rw [eal]
            generalize oA (tB fs s.2.2.1 (x / 24)) (x % 24) = a at *
            by_cases c0 : a ≤ 1
            · have e1 : (if a < 1 then 1 else a) = 2 ^ 0 := by split <;> omega
              rw [e1, if_neg (fun w => by omega), k_up (k := 0) (by decide) (by omega)]
              unfold upN
              rw [show (2 : Nat) ^ 0 = 1 from rfl, Nat.div_one, Nat.mul_one, Nat.add_sub_cancel]
            · have hp2 := hap.resolve_left (by omega)
              obtain ⟨w1, w2⟩ := isP_pow a (by omega) hp2
              rw [if_neg (by omega), if_pos ⟨eth, by omega⟩]
              generalize Nat.log2 a = k at *
              rw [w1]
              exact k_up w2 (by omega)
          rw [eU, xb_mk]
          rw [eth] at put
          exact put
    · rw [if_neg (show ¬ nI g1 = nI g from fun w => cg ((nI_eq (by omega) (by omega)).mp w))]
      exact no (by rw [ecn, decide_eq_false cg, Bool.false_and])
end CGR
