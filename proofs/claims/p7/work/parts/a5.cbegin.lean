/-! begin of the class: the names given -/
section CBG
variable {F : Nat} {c : px_CT} {gs : List (List Nat × Int64)} {tb : Nat → Nat → Nat}
theorem k_bg_75 (hF : 4128 < F) : ∀ (l : List (List Nat × Int64)) (i f k : Nat) (sk : Nat → Nat × Nat × Nat) (L : Nat) (τ : px_TT) (own : Nat → Nat × Nat) (xs : px_NL) (od : List Nat), gs.drop i = l → i + l.length = gs.length → l.length < f → GS sk L → GR τ → NP sk L τ own → CG sk L τ gs → CLn sk L τ tb xs od [] → xs.length + l.length ≤ 4096 → od.length + l.length ≤ 4096 → RMk sk L (k + l.length) → (∀ g, g ∈ l → g.1 ∉ xs.map Prod.fst) → (l.map Prod.fst).Nodup → ∃ sk' L' τ' own', f_Link_begin_75 F c f 147 (nI i) (cH sk L τ) = f_Link_begin_123 F c 147 (cH sk' L' τ') ∧ EX sk L sk' L' ∧ RMk sk' L' k ∧ NP sk' L' τ' own' ∧ CLn sk' L' τ' tb (tlG l (xs, od)).1 (tlG l (xs, od)).2 [] ∧ frLk τ τ' := by
  intro l
  induction l with
  | nil =>
    intro i f k sk L τ own xs od hd hil0 hf hS hR hn hg hC hx ho hr hq hnd
    obtain ⟨f, rfl⟩ : ∃ x, f = x + 1 := ⟨f - 1, by omega⟩
    have o147 := G147 hS
    obtain ⟨s1, s2, s3, s4, s5, s6, s7⟩ := id hg.1
    rw [List.length_map] at s4 s6
    rw [List.length_nil] at hil0
    refine ⟨sk, L, τ, own, ?_, EX_refl, hr, hn, hC, frLk_refl⟩
    unfold f_Link_begin_75
    rw [C3r1 o147 (GR_r (v := 140) hR (by decide)), bs, C6g2 s1, bs, s6, if_pos (nI_le (by omega) (by omega))]
  | cons g l ih =>
    intro i f k sk L τ own xs od hd hil0 hf hS hR hn hg hC hx ho hr hq hnd
    obtain ⟨f, rfl⟩ : ∃ x, f = x + 1 := ⟨f - 1, by omega⟩
    have o147 := G147 hS
    obtain ⟨s1, s2, s3, s4, s5, s6, s7⟩ := id hg.1
    rw [List.length_map] at s4 s6
    rw [List.length_cons] at hf hx ho hr hil0
    have hgi : gs[i]? = some g := by
      have := congrArg (fun z => z[0]?) hd
      simp only [List.getElem?_drop, Nat.add_zero, List.getElem?_cons_zero] at this
      exact this
    have hil := (List.getElem?_eq_some_iff.mp hgi).1
    have hd' : gs.drop (i + 1) = l := by
      have := congrArg List.tail hd
      rw [List.tail_drop] at this
      exact this
    obtain ⟨n1, n2, n3, n4, n5⟩ := k_natG (F := F) (c := c) hg.1 (show (gs.map Prod.fst)[i]? = some g.1 by rw [List.getElem?_map, hgi]; rfl)
    have hv := hg.2 i g hgi
    generalize hP : (eN τ 141 i).getD 0 = p at *
    have hto : oth2 149 (xs.map Prod.fst).length τ p := Or.inr ⟨141, i, Or.inl rfl, n5, fun e => by omega⟩
    have hxl : (xs.map Prod.fst).length = xs.length := List.length_map ..
    have hw : g.1 ∉ xs.map Prod.fst := hq g (List.mem_cons_self ..)
    have hidx : idx g.1 0 (xs.map Prod.fst) = none := by
      cases e : idx g.1 0 (xs.map Prod.fst) with
      | none => rfl
      | some j => exact absurd (idx_iff.mp (by rw [e]; rfl)) hw
    obtain ⟨sk1, L1, τ1, own1, e1, e2, e3, e4, e5, e6, e7, e8⟩ := k_enterG (F := F) (c := c) (k := k + l.length) hS hC.1 hn (Or.inr (Or.inr rfl)) (by decide) n2 hto n3 n4 (by rw [hxl]; omega) (by rw [hxl]; omega) hr
    rw [hxl] at e6 e8
    have hC1 := CLn_ent hC e5 e6 e7 e8
    have f1 := frLk_En hn e8
    have hS1 := GS_ex hS e2
    have hR1 := GR_Lk hR f1
    obtain ⟨r, p1, p2⟩ := plc_at (w := g.1) (xs := xs)
    have hr0 : r = nr0 := by
      have e : plc g.1 (xs.map Prod.fst) = xs.length := by unfold plc; rw [hidx, hxl]; rfl
      rw [e] at p1
      unfold entL at p1
      rw [if_neg (by rw [hidx]; decide), List.getElem?_append_right (Nat.le_refl _), Nat.sub_self] at p1
      exact (congrArg Prod.snd (Option.some.inj p1)).symm
    obtain ⟨z1, z2, z3, z4⟩ := CLn_at hC1 p1
    have zq := (e4 149 _ _ (Or.inr (Or.inr rfl)) z2).1
    obtain ⟨c1, c2, c3⟩ := (hC1.2.1 _ _ p1).1
    have hv1 : fJ τ1 p 7 = g.2 := ((f1.2.2.2.2.2.2 141 i p (Or.inl rfl) n5).2.1 7).trans hv
    obtain ⟨τ2, d1, d2, d3, d4, d5⟩ := k_define (F := F) (c := c) (τ := τ1) (s := nI 3) (hm := nI 2) (inf := nI 16) (pt := none) (v := g.2) (z := lN 0) hS1 (GR_r hR1 (by decide)) z3 zq (show od.length < 4128 by omega) hC1.2.2.1.1
    have q147 : pN τ1 149 (plc g.1 (xs.map Prod.fst)) ≠ 147 := by omega
    have fx := frX_df d3 q147
    have f2 := frLk_X e4 z2 fx
    have hc2 : crec tb τ2 (pN τ1 149 (plc g.1 (xs.map Prod.fst))) (gvR g.2 r) := by
      obtain ⟨a, b, g1, g2, g3⟩ := c2
      refine ⟨d2.1, ⟨a, b, (d3.1 _ 10 (Or.inr (by decide)) (Or.inl q147)).trans g1, (d3.1 _ 11 (Or.inr (by decide)) (Or.inl q147)).trans g2, g3⟩, ⟨fun q => (nomatch q), fun q => (nomatch q), fun q => (nomatch q), fun _ _ => ⟨d2.2.1, d2.2.2.2.1⟩, fun _ t k q => ?_⟩, (fun _ => d2.2.2.2.2.2), (d3.1 _ 15 (Or.inr (by decide)) (Or.inl q147)).trans c3.2.2.1, (d3.1 _ 16 (Or.inr (by decide)) (Or.inl q147)).trans c3.2.2.2⟩
      rw [hr0] at q
      cases q
    have h40 : fI τ1 (pN τ1 149 (plc g.1 (xs.map Prod.fst))) 4 = nI 0 := by rw [c1, hr0]; rfl
    obtain ⟨o1, o2⟩ := d4 h40
    have hC2 := CLn_upd (f := gvR g.2) (od' := od ++ [plc g.1 (xs.map Prod.fst)]) hC1 e4 p1 fx hc2 ⟨by rw [List.length_append, List.length_singleton]; exact o1, fun j d hd => by
      by_cases cj : j < od.length
      · rw [List.getElem?_append_left cj] at hd
        obtain ⟨y1, y2⟩ := hC1.2.2.1.2 j d hd
        rw [o2, va_up_n (by omega)]
        exact ⟨y1, y2⟩
      · have ej : j = od.length := by
          have := (List.getElem?_eq_some_iff.mp hd).1
          rw [List.length_append, List.length_singleton] at this
          omega
        rw [ej, List.getElem?_append_right (Nat.le_refl _), Nat.sub_self] at hd
        have hd : plc g.1 (xs.map Prod.fst) = d := Option.some.inj hd
        rw [← hd, ej, o2, va_up_a]
        exact ⟨p2, rfl⟩⟩
    rw [List.map_cons] at hnd
    have hnd2 := List.nodup_cons.mp hnd
    have hel := entL_len (w := g.1) (xs := xs)
    obtain ⟨sk3, L3, τ3, own3, j1, j2, j3, j4, j5, j6⟩ := ih (i + 1) f k sk1 L1 τ2 own1 (setR (entL g.1 xs) (plc g.1 (xs.map Prod.fst)) (gvR g.2)) (od ++ [plc g.1 (xs.map Prod.fst)]) hd' (by omega) (by omega) hS1 (GR_Lk hR1 f2) (NP_X e4 fx) (CG_Lk hg e2 (frLk_trans f1 f2)) hC2 (by rw [setR_len]; omega) (by rw [List.length_append, List.length_singleton]; omega) e3 (fun g' hg' => by
      rw [setR_fst, entL_fst]
      intro q
      rcases ent_mem.mp q with q | q
      · exact hnd2.1 (by rw [← q]; exact List.mem_map_of_mem hg')
      · exact hq g' (List.mem_cons_of_mem _ hg') q) hnd2.2
    refine ⟨sk3, L3, τ3, own3, ?_, EX_trans e2 j2, j3, j4, j5, frLk_trans f1 (frLk_trans f2 j6)⟩
    unfold f_Link_begin_75
    rw [C3r1 o147 (GR_r (v := 140) hR (by decide)), bs, C6g2 s1, bs, s6, if_neg (nI_ge hil (by omega)), bs, c_o s1, bs, n1, xb_mk, C3r3 o147 (GR_r (v := 148) hR (by decide)), bs, c_o hC.1.1, bs, e1, xb_mk, bs, C5g7 (ob_ex n2 e2), bs, hv1, c_o (G147 hS1), bs, d1, xb_mk, nI_add]
    exact j1
end CBG
